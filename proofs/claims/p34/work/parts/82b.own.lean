/-! A HOUSE OF ITS OWN: a method that makes a house, and goes on as the machine does -/
theorem rel0 {M : Mem} (h : GI M 1 1) : Rel (Mz M) h0 := by
  obtain ⟨h1, h2, h3, h4, h5, h6, h7, h8, h9, h10⟩ := h
  exact ⟨⟨h1, h2, h3, h4, h5, h6, h7, h8, h9, h10⟩, trivial, ⟨Nat.zero_le 30, rfl, trivial, fun i hi => absurd hi (Nat.not_lt_zero i)⟩, ⟨Nat.zero_le 12, rfl, trivial, rfl, fun i hi => absurd hi (Nat.not_lt_zero i)⟩, ⟨rfl, trivial, Nat.zero_le 9999, fun z => absurd rfl z⟩⟩
theorem own_run {C : Cfg} {D : Cfg2} {n : Nat} {loc : List (Option Value)} {MG : Mem} (hS : Sim2 C D) (h : okB (run2 D n (8, loc, [], h0, 0)) = true) (hgi : GI MG 1 1) : ∃ Mf, Rend C (8, loc, [], Mz MG, 0) (.inl (some (.int 1))) Mf := by
  obtain ⟨s, k, N, hN⟩ := okB_E h
  obtain ⟨M', e1, e2⟩ := run2_sim hS N _ _ _ (Mz MG) _ _ _ (rel0 hgi) hN
  exact ⟨M', Rend.run N e1⟩
theorem own_gok {D : va_G} {cA : Nat → ClassId} {a : Nat → Nat} {lo n : Nat} {M : Mem} (hlo : lo ≤ n) (hD : va_D (fun q : Nat => n ≤ q) (wl (D, cA, a, lo) M csF)) : GhOK (D, cA, a, lo) csF n := by
  have at9 : ∀ k ∈ csF, (wl (D, cA, a, lo) M csF)[k]? = some (a k, cellE (D, cA, a, lo) M k) := fun k hk => by
    have h30 : k < 19 := List.mem_range.mp hk
    simp only [wl, List.getElem?_map, csF]
    rw [List.getElem?_range h30]
    rfl
  exact ⟨fun x hx y hy h => hD.1 x y _ _ (at9 x hx) (at9 y hy) h, fun k hk => Nat.le_trans hlo (hD.2 k _ (at9 k hk)), hlo⟩
theorem own_ad {D : va_G} {cA : Nat → ClassId} {a : Nat → Nat} {lo n : Nat} {M : Mem} (hD : va_D (fun q : Nat => n ≤ q) (wl (D, cA, a, lo) M csF)) : ∀ k ∈ csF, n ≤ a k := by
  intro k hk
  have h30 : k < 19 := List.mem_range.mp hk
  have at9 : (wl (D, cA, a, lo) M csF)[k]? = some (a k, cellE (D, cA, a, lo) M k) := by
    simp only [wl, List.getElem?_map, csF]
    rw [List.getElem?_range h30]
    rfl
  exact hD.2 k _ at9
set_option maxHeartbeats 4000000 in
theorem own_house {p : Program} {l : Launch} {e : Env} {s : State} {m : MethodId} {args : Array Value} {below : List Frame} {meth : Method} {c : Code} {D : va_G} {cA : Nat → ClassId} {ad a : Nat → Nat} {lo : Nat} {cs : List Nat} {M MG : Mem} {H : Heap} {locs : List Loc} {ls : Array Slot} {cc : ByteArray} {nL d dR mc mcC : Nat} {C : Cfg} {loc : List (Option Value)}
    (hst : l.stackTraces = false) (hlo : lo ≤ s.heap.size) (hKW : KW (D, cA, ad, lo) s) (hP0 : va_P D vwCl (wl (D, cA, ad, lo) M cs) s.heap)
    (hP : va_P D vwCl (wl (D, cA, a, lo) (Mz MG) csF) H) (hD : va_D (fun q : Nat => s.heap.size ≤ q) (wl (D, cA, a, lo) (Mz MG) csF)) (hS : va_S (fun q : Nat => s.heap.size ≤ q) s.heap H locs) (hl : lv_has ls nL (lvl (D, cA, a, lo) loc)) (hlen : loc.length = nL)
    (hC : CfgOK RL cc C d) (hcs : C.cs = csF) (hhs : C.hs = []) (hre : C.ret = some .boolean) (hsc : C.scr = none) (hcap : C.cap = mcC)
    (hfix : p.tables.exec = Jvm.exec ∧ c.code = cc ∧ c.maxLocals = nL ∧ s.vm.findClass RL = some m.cls ∧ ∀ w ∈ TB, w.before args s = true) (hlk : meth.locks = false) (hret : meth.sig.returnType = some .boolean) (htab : ∀ x ∈ c.exceptionTable.toList, False)
    (hrun : ∃ Mf, Rend C (8, loc, [], Mz MG, 0) (.inl (some (.int 1))) Mf) (h1 : 19 + mcC ≤ mc) (h2 : 5437 + 6 * mcC ≤ 6 * mc) (h3 : d ≤ dR) :
    W p l e { frames := dR, cells := mc, slots := 6 * mc, locals := 48 * dR } s m args below meth c H locs 19 5437 (vx_MQ below (QcW (D, cA, ad, lo) cs (.inl (some (.int 1))) M s.heap.size) (XcW (D, cA, ad, lo) cs (.inl (some (.int 1))) M s.heap.size) args s mc (6 * mc) (AG (D, cA, ad, lo) cs s.heap.size)) (F0 m 8 ls []) := by
  obtain ⟨t0, cs0, fl0, ca0, in0, lg0, ex0, hs0, sc0, re0, cp0⟩ := C
  have hcs : cs0 = csF := hcs
  have hhs : hs0 = [] := hhs
  have hre : re0 = some .boolean := hre
  have hsc : sc0 = none := hsc
  have hcap : cp0 = mcC := hcap
  subst hcs; subst hhs; subst hre; subst hsc; subst hcap
  have gok := own_gok hlo hD
  have gad := own_ad hD
  have hA1 : ∀ q, (fun q : Nat => s.heap.size ≤ q) q → AG (D, cA, a, lo) csF s.heap.size q := fun q h => Or.inr h
  have hA2 : ∀ q, AG (D, cA, a, lo) csF s.heap.size q → s.heap.size ≤ q := by
    rintro q (⟨k, hk, rfl⟩ | h)
    · exact gad k hk
    · exact h
  have hKW2 : KW (D, cA, a, lo) s := hKW
  obtain ⟨Mf, nn, kk, hr⟩ := hrun
  have X : CxS p l { frames := dR, cells := mc, slots := 6 * mc, locals := 48 * dR } s m args meth c (D, cA, a, lo) (t0, csF, fl0, ca0, in0, lg0, ex0, [], none, some .boolean, cp0) nL s.heap.size cp0 d (19, 5437, mc, 6 * mc) cc RL :=
    ⟨hfix, hKW2, gok, rfl, csF_nd, hst, hlk, hret, rfl, h1, h2, h3, Nat.mul_le_mul_left 48 h3, ⟨h1, h2⟩, by
      cases htl : c.exceptionTable.toList with
      | nil => rfl
      | cons x r => exact (htab x (by rw [htl]; exact List.mem_cons_self)).elim⟩
  have hA9 := runA_ok (e := e) (below := below) X hC (fun L xs h => by cases h) nn _ _ hr ⟨rfl, rfl⟩
  have hW := hA9 H locs ls hP (hS.to9 hA1) hlen hl
  refine W.mono9 hW ?_
  rintro t ⟨o, t1, t2, ⟨⟨⟨v, v1, v2, v3⟩, v4⟩, L9, f1, f2⟩ | ⟨z, -, E, ce, L9, ⟨hE, -⟩, -⟩⟩
  · have hF : va_F (fun q : Nat => s.heap.size ≤ q) s t := v4.to9 hA2
    refine ⟨o, t1, t2, Or.inl ⟨⟨⟨v, v1, ?_, ?_⟩, hF.to9 fun q h => Or.inr h⟩, L9, f1, fun x hx => Or.inr (hA2 _ (f2 x hx))⟩⟩
    · rw [v2]
      cases v1
      rfl
    · exact hP0.kept (fun j q hq => hF.2 q.1 (hP0 j q hq).lt (fun z => absurd (hP0 j q hq).lt (Nat.not_lt.mpr z)))
  · cases hE
theorem z_X7 (j : Nat) (hj : j < 7) : defaultValue (tyX7 j) = vp_V [.null, .null, .int 0, .null, .null, .null, .null] j := match j, hj with
  | 0, _ => rfl
  | 1, _ => rfl
  | 2, _ => rfl
  | 3, _ => rfl
  | 4, _ => rfl
  | 5, _ => rfl
  | 6, _ => rfl
