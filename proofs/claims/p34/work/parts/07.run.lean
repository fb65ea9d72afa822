/-! CALLS AND THROWS; A WHOLE RUN OF THE MACHINE IS A RUN OF THE METHOD -/
section SndR
variable {p : Program} {l : Launch} {e : Env} {R : Room} {s : State} {m : MethodId} {args : Array Value} {below : List Frame} {meth : Method} {c : Code} {Q : State → Prop} {G : Gh} {C : Cfg} {nL sz mc d : Nat} {B : Bd} {cc : ByteArray} {own : String} {o0 : Res} {M0 : Mem}
variable {pc n k : Nat} {lo : List (Option Value)} {st : List Value} {M : Mem} {r : St ⊕ Ou}
theorem AG_mono {cs : List Nat} {a b : Nat} (h : a ≤ b) : ∀ q, AG G cs b q → AG G cs a q := by
  rintro q (h1 | h1)
  · exact Or.inl h1
  · exact Or.inr (Nat.le_trans h h1)
/-- what is owed behind a call, by what came of it -/
def ResP (p : Program) (l : Launch) (e : Env) (R : Room) (s : State) (m : MethodId) (args : Array Value) (below : List Frame) (meth : Method) (c : Code) (G : Gh) (C : Cfg) (nL sz : Nat) (B : Bd) (o0 : Res) (M0 : Mem) (pc : Nat) (lo : List (Option Value)) (rest : List Value) (M' : Mem) (k' : Nat) : Res → Prop
  | .inl v => AW p l e R s m args below meth c (QM below G C o0 M0 sz B args s) (AG G C.cs sz) G C nL B (pc + 3, lo, v.toList ++ rest, M', k')
  | .inr E => M0 = M' ∧ ((C.hs = [] ∧ o0 = .inr E) ∨ ∃ v, hnd C nL pc E C.hs = some (some v) ∧ o0 = .inl (some v))
theorem sn_go (X : CxS p l R s m args meth c G C nL sz mc d B cc own) (hH : HsOK own C) (hcode : ∀ x ∈ C.code, decode cc x.1 = .ok x.2) (hlg : ∀ e ∈ C.longs, (Cond.constantLong own e.1 e.2).before args s = true) {H : Heap} {locs : List Loc} {ls : Array Slot} {st0 rest : List Value} {a : Array Value} {mcE : Nat} {o' : Res} {M' : Mem}
    (hr : vx_Run p l e R s m args below meth c H locs (B.1 + k) (B.2.1 + 6 * k) mcE (6 * mcE) (F0 m pc ls st0) (rest.map (cv G)) (QcW G C.cs o' M' H.size a) (XcW G C.cs o' M' H.size) (AG G C.cs H.size))
    (hS : va_S (AG G C.cs sz) s.heap H locs) (hL : lo.length = nL) (hl0 : lv_has ls nL (lvl G lo)) (hcap : k + mcE ≤ mc)
    (hres : ResP p l e R s m args below meth c G C nL sz B o0 M0 pc lo rest M' (k + mcE) o') :
    W p l e R s m args below meth c H locs (B.1 + k) (B.2.1 + 6 * k) (QM below G C o0 M0 sz B args s) (F0 m pc ls st0) := by
  have hsz : s.heap.size = sz := X.2.2.2.1
  have hle : sz ≤ H.size := by rw [← hsz]; exact hS.1
  have h6 : B.2.1 + 6 * k + 6 * mcE = B.2.1 + 6 * (k + mcE) := by omega
  have h5 : B.1 + k + mcE = B.1 + (k + mcE) := by omega
  obtain ⟨hM1, hM2⟩ := X.2.2.2.2.2.2.2.2.2.2.2.2.2.1
  have hc1 : B.1 + (k + mcE) ≤ B.2.2.1 := by omega
  have hc2 : B.2.1 + 6 * (k + mcE) ≤ B.2.2.2 := by omega
  intro T hT X0
  rcases hr T hT X0 with ⟨v, st₀, t, T', L, h0, X', hL1, e1, e2, ⟨⟨v0, ho, hv, hP⟩, hF⟩, hst⟩ | ⟨q, st₀, t, T', L, E, ce, h0, X', hL1, e1, e2, ⟨ho, hP, hF⟩, hce, hcv, hcl, hst⟩
  · obtain ⟨-, -, k3⟩ := vx_keep h0 e1 hS (fun q _ h => AG_mono hle q h) (AG_mono hle) hL1 hF
    subst ho
    cases hv
    rw [h5, h6] at X'
    have hW := hres T'.heap (locs ++ L) ls (by rw [e1]; exact hP) k3 hL hl0
    obtain ⟨t2, a1, b1⟩ := hW T' rfl X'
    refine ⟨t2, hst t2 ?_, b1⟩
    cases v0 with
    | none => exact a1
    | some w => exact a1
  · obtain ⟨-, -, k3⟩ := vx_keep h0 e1 hS (fun q _ h => AG_mono hle q h) (AG_mono hle) hL1 hF
    subst ho
    obtain ⟨rfl, hres⟩ := hres
    rw [h5, h6] at X'
    rcases hres with ⟨hhs, ho⟩ | ⟨w, hh, ho⟩
    · obtain ⟨t2, a1, b1⟩ := sn_out X hhs (pc := pc) (ls := ls) (rest := rest.map (cv G)) hc1 hc2 (by rw [e1]; exact hP) k3 ho (by rw [e1]; exact hce) hcv hcl T' rfl X'
      exact ⟨t2, hst.trans a1, b1⟩
    · have hE : E ∈ excL := by
        obtain ⟨pre, x, suf, q1, -, -, -, q5, -⟩ := hnd_sp hh
        rw [← q5]
        exact (hH x (by rw [q1]; simp)).2.2
      obtain ⟨t2, a1, b1⟩ := sn_caught X hH hcode hlg (pc := pc) (ls := ls) (rest := rest.map (cv G)) hc1 hc2 hE hh hl0 (by rw [e1]; exact hP) k3 ho (by rw [e1]; exact hce) hcv hcl T' rfl X'
      exact ⟨t2, hst.trans a1, b1⟩
theorem stk_split {G : Gh} {st : List Value} {n : Nat} : st.map (cv G) = (((st.take n).reverse).map (cv G)).reverse ++ (st.drop n).map (cv G) := by
  rw [List.map_reverse, List.reverse_reverse, ← List.map_append, List.take_append_drop]
theorem sn_call (X : CxS p l R s m args meth c G C nL sz mc d B cc own) (hH : HsOK own C) (hcode : ∀ x ∈ C.code, decode cc x.1 = .ok x.2) (hlg : ∀ e ∈ C.longs, (Cond.constantLong own e.1 e.2).before args s = true) {i mk : Nat} {ce : CallE} (hc : CallOK own C.cs d (i, ce)) (hd : (mk = 0 ∧ decode cc pc = .ok (.invokestatic i, 3)) ∨ (mk = 1 ∧ decode cc pc = .ok (.invokevirtual i, 3)))
    (h : doCall C mk ce pc lo st M k = some r) (hF : FinR p l e R s m args below meth c (QM below G C o0 M0 sz B args s) (AG G C.cs sz) G C nL B o0 M0 r) : AW p l e R s m args below meth c (QM below G C o0 M0 sz B args s) (AG G C.cs sz) G C nL B (pc, lo, st, M, k) := by
  have X9 := X
  obtain ⟨hfix, hK, hG, hsz, hnd0, hst, hlocks, hret, hcapE, hRc, hRs, hRf, hRl, ⟨hM1, hM2⟩, htab⟩ := X
  obtain ⟨hx, hb, hml, hown, hts⟩ := id hfix
  obtain ⟨kind, ci, na, mcE, f⟩ := ce
  unfold doCall at h
  dsimp only at h
  cases hg : (Nat.ble na st.length && Nat.ble (catS (st.drop na)) 8 && Nat.beq (kind / 2) mk && Nat.ble (k + mcE) C.cap) with
  | false => rw [hg] at h; cases h
  | true =>
    rw [hg] at h
    simp only [Bool.and_eq_true] at hg
    obtain ⟨⟨⟨g1, g2⟩, g3⟩, g4⟩ := hg
    have g1 := Nat.le_of_ble_eq_true g1
    have g2 := Nat.le_of_ble_eq_true g2
    have g3 := Nat.eq_of_beq_eq_true g3
    have g4 := Nat.le_of_ble_eq_true g4
    rw [hcapE] at g4
    simp only [cond_true] at h
    cases hrv : rcv C.cs mk ci (st.take na).reverse with
    | false => rw [hrv] at h; cases h
    | true =>
      rw [hrv] at h
      simp only [cond_true] at h
      -- what comes of the call
      have hfr : ∃ o' M', f (st.take na).reverse M = some (o', M') ∧ ∀ (_ : lo.length = nL), ResP p l e R s m args below meth c G C nL sz B o0 M0 pc lo (st.drop na) M' (k + mcE) o' := by
        split at h
        · rename_i v M' hf
          cases h
          exact ⟨.inl v, M', hf, fun _ => hF⟩
        · rename_i E M' hf
          refine ⟨.inr E, M', hf, fun hL => ?_⟩
          split at h
          · rename_i hhs
            cases h
            exact ⟨hF.2.symm, Or.inl ⟨hhs, hF.1.symm⟩⟩
          · rename_i h1 hr1 hhs
            split at h
            · rename_i w hh
              cases h
              rw [hL] at hh
              exact ⟨hF.2.symm, Or.inr ⟨w, by rw [hhs]; exact hh, hF.1.symm⟩⟩
            · cases h
        · cases h
      obtain ⟨o', M', hf, hres⟩ := hfr
      rcases hc with ⟨k0, hna, hmc, hff, hd1, w1, w2, w3, w4⟩ | ⟨y, cc', maxL, ret', hh, dY, hOk, hdY, hmL, hw1, hini, hy, hkind⟩
      · dsimp only at k0 hna hmc hff w1
        subst k0; subst hna; subst hmc; subst hff
        have hd0 : decode cc pc = .ok (.invokestatic i, 3) := by
          rcases hd with ⟨-, hd⟩ | ⟨hd, -⟩
          · exact hd
          · rw [hd] at g3; cases g3
        match st, g1, g2, hf, hres with
        | a :: b :: rest, _, g2, hf, hres =>
          unfold fn_min at hf
          simp only [List.take_succ_cons, List.take_zero, List.reverse_cons, List.reverse_nil, List.nil_append, List.cons_append] at hf
          split at hf
          · rename_i x z hxz
            cases hxz
            cases hf
            intro H locs ls hP hS hL hl0
            have hW := hres hL H locs ls hP hS hL hl0
            have hroom : (rest.map (cv G) |>.map fun v => v.category).sum ≤ 8 := by rw [cv_cats]; exact g2
            exact va_mmin hx hb (hml.trans hl0.1.symm) hown (hts _ w1) (hts _ w2) (hts _ w3) (hts _ w4) (by omega) (by omega) (show B.1 + k ≤ R.cells by omega) (show B.2.1 + 6 * k ≤ R.slots by omega) hd0 hW
          · cases hf
      dsimp only at hOk hkind
      intro H locs ls hP hS hL hl0
      dsimp only at hP hL hl0 ⊢
      have hle : sz ≤ H.size := by rw [← hsz]; exact hS.1
      have hM := hOk l hst G H.size (st.take na).reverse M o' M' hf
      have hws := TB_in (U := s) hts hw1
      have hPc : ∀ U : State, U.heap = H → s.WarmedH U.vm → PcW G C.cs (st.take na).reverse M H.size (((st.take na).reverse).map (cv G)).toArray U := fun U hU hW =>
        ⟨rfl, by rw [hU], by rw [hU]; exact hP, hK.move hU hW hS (AG_lo hG), hG.1, hG.2.1, Nat.le_trans hG.2.2 hle⟩
      have hfit : B.1 + k + mcE ≤ R.cells ∧ B.2.1 + 6 * k + 6 * mcE ≤ R.slots := ⟨by omega, by omega⟩
      have hroom : (st.drop na |>.map (cv G) |>.map fun v => v.category).sum ≤ 8 := by rw [cv_cats]; exact g2
      have hlen : (((st.take na).reverse).map (cv G)).length = na := by simp; omega
      have hstk := stk_split (G := G) (st := st) (n := na)
      refine sn_go (a := (((st.take na).reverse).map (cv G)).toArray) X9 hH hcode hlg ?_ hS hL hl0 g4 (hres hL)
      rcases hkind with ⟨k0, hpar, hlink, hstat⟩ | ⟨k1, hhn, hpar, ⟨host, hnest⟩, hstat⟩ | ⟨k2, hhn, hpar, hlink, hinst, hsel, ⟨q, hq1, hq2⟩⟩
      · have hd0 : decode cc pc = .ok (.invokestatic i, 3) := by
          rcases hd with ⟨-, hd⟩ | ⟨hd, -⟩
          · exact hd
          · rw [k0, hd] at g3; cases g3
        have hn1 : ∀ sig, parseMethodDescriptor y.desc = some sig → na = sig.parameters.length := fun sig h => by rw [h] at hpar; exact (Option.some.inj hpar).symm
        cases hh with
        | none =>
          exact vx_runS hfix hM ⟨⟨rfl, rfl, Nat.le_trans hdY hRf, by show 8 + (maxL + 11) + 48 * dY ≤ R.locals; omega, hws, List.mem_cons_self, hts _ hw1, hts _ hini, hy, hn1, hts _ hlink⟩, hts _ hstat⟩ ⟨PcW_blind, hPc⟩ rfl hlen (hl0.1) hstk (lv_room hroom) hd0 hfit
        | some hh =>
          exact vx_runSX (hh := hh) hfix hM ⟨⟨rfl, rfl, Nat.le_trans hdY hRf, by show 8 + (maxL + 11) + 48 * dY ≤ R.locals; omega, hws, List.mem_cons_self⟩, hts _ hw1, hts _ hini, hy, hn1, hts _ hlink, hts _ hstat⟩ ⟨PcW_blind, hPc⟩ rfl hlen (hl0.1) hstk (lv_room hroom) hd0 hfit
      · have hd0 : decode cc pc = .ok (.invokestatic i, 3) := by
          rcases hd with ⟨-, hd⟩ | ⟨hd, -⟩
          · exact hd
          · rw [k1, hd] at g3; cases g3
        have hn1 : ∀ sig, parseMethodDescriptor y.desc = some sig → na = sig.parameters.length := fun sig h => by rw [h] at hpar; exact (Option.some.inj hpar).symm
        subst hhn
        exact vx_runSN (host := host) hfix hM ⟨⟨⟨rfl, rfl, Nat.le_trans hdY hRf, by show 8 + (maxL + 11) + 48 * dY ≤ R.locals; omega, hws, List.mem_cons_self⟩, hts _ hw1, hts _ hini, hy, hn1, va_Nw.use rfl (hK.2.2.2.2.1 _ hnest)⟩, hts _ hstat, trivial⟩ ⟨PcW_blind, hPc⟩ rfl hlen (hl0.1) hstk (lv_room hroom) hd0 hfit
      · have hmk : mk = 1 := by rw [k2] at g3; exact g3.symm
        have hd0 : decode cc pc = .ok (.invokevirtual i, 3) := by
          rcases hd with ⟨hd, -⟩ | ⟨-, hd⟩
          · rw [hd] at hmk; cases hmk
          · exact hd
        subst hmk
        subst hhn
        replace hrv : (match (st.take na).reverse with | .ref b :: _ => (match LAY[b]? with | some (.inl (c', _)) => Nat.beq c' ci && C.cs.contains b | _ => false) | _ => false) = true := hrv
        split at hrv
        · rename_i b av hst0
          split at hrv
          · rename_i ci' tys hlay
            simp only [Bool.and_eq_true] at hrv
            have hci := Nat.eq_of_beq_eq_true hrv.1
            subst hci
            rw [hst0] at hM hPc hlen hstk ⊢
            have hlen' : (av.map (cv G)).length = na - 1 := by
              have : (av.map (cv G)).length + 1 = na := by simpa using hlen
              omega
            have hn1 : ∀ sig, parseMethodDescriptor y.desc = some sig → na - 1 = sig.parameters.length := fun sig h => by
              rw [h] at hpar
              have hz : sig.parameters.length + 1 = na := Option.some.inj hpar
              omega
            obtain ⟨q0, hq1', hq2'⟩ := wl_at (G := G) (M := M) (List.contains_iff_mem.mp hrv.2)
            rw [cellE_obj hlay] at hq2'
            have hrecv := va_recv hK.1 hP hq1 hq2'
            rw [hq2] at hrecv
            have hstk2 : st.map (cv G) = (av.map (cv G)).reverse ++ .ref (G.ad b) :: (st.drop na).map (cv G) := by
              rw [hstk]
              simp [cv]
            exact vx_runV (C := y.cls) (b := G.ad b) (As := av.map (cv G)) hfix hM ⟨⟨rfl, rfl, Nat.le_trans hdY hRf, by show 8 + (maxL + 11) + 48 * dY ≤ R.locals; omega, hws, List.mem_cons_self, hts _ hw1, hts _ hini, hy, hn1, hts _ hlink⟩, hts _ hinst, hts _ hsel⟩ ⟨PcW_blind, hrecv, hPc⟩ rfl hlen' (hl0.1) hstk2 (lv_room hroom) hd0 hfit
          · cases hrv
        · cases hrv
abbrev exN : List String := ["java/lang/RuntimeException", "java/lang/Exception"]
/-- a throw's row in a method's table is good -/
def excb (own : String) (d : Nat) (e : Nat × String × Nat × Nat × Nat × String) : Bool :=
  decide (6 ≤ d) && decide (Cond.classLink own e.2.2.1 e.2.1 ∈ TB) && decide (Cond.initialized e.2.1 ∈ TB) && decide (e.2.1 ∈ excL) && decide ((own, e.2.2.2.1, e.2.2.2.2.2) ∈ strL) &&
  (vx_atS own e.2.2.2.2.1 e.2.1 exN).all (fun w => decide (w ∈ TB) || (decide (w = .castable e.2.1 e.2.1) || decide (w ∈ decL.map Cond.declares)))
theorem excL_fit : ∀ E ∈ excL, Bundle.fit E = true := by decide +kernel
theorem exN_fit : ∀ E ∈ exN, Bundle.fit E = true := by decide +kernel
theorem sn_new (X : CxS p l R s m args meth c G C nL sz mc d B cc own) (hE : ∀ e ∈ C.excs, excb own d e = true) (hcode : ∀ x ∈ C.code, decode cc x.1 = .ok x.2) {i : Nat} (hd : decode cc pc = .ok (.new i, n)) (hn : n = 3)
    (h : xi C pc lo st M k n (.new i) = some r) (hF : FinR p l e R s m args below meth c (QM below G C o0 M0 sz B args s) (AG G C.cs sz) G C nL B o0 M0 r) : AW p l e R s m args below meth c (QM below G C o0 M0 sz B args s) (AG G C.cs sz) G C nL B (pc, lo, st, M, k) := by
  obtain ⟨hfix, hK, hG, hsz, hnd0, hst, hlocks, hret, hcapE, hRc, hRs, hRf, hRl, ⟨hM1, hM2⟩, htab⟩ := X
  obtain ⟨hx, hb, hml, hown, hts⟩ := id hfix
  subst hn
  simp only [xi] at h
  split at h
  · rename_i E ik is ic tx hlk hhs
    cases hg : (Nat.beq i ik && Nat.ble (k + 1) C.cap && Nat.ble (catS st) 8) with
    | false => rw [hg] at h; cases h
    | true =>
      rw [hg] at h
      simp only [Bool.and_eq_true] at hg
      obtain ⟨⟨g1, g2⟩, g3⟩ := hg
      obtain rfl := Nat.eq_of_beq_eq_true g1
      have g2 := Nat.le_of_ble_eq_true g2
      have g3 := Nat.le_of_ble_eq_true g3
      rw [hcapE] at g2
      have hb1 := hE _ (lk_mem hlk)
      unfold excb at hb1
      simp only [Bool.and_eq_true, decide_eq_true_eq] at hb1
      obtain ⟨⟨⟨⟨⟨b1, b2⟩, b3⟩, b4⟩, b5⟩, b6⟩ := hb1
      have b6 := List.all_eq_true.mp b6
      simp only [Bool.or_eq_true, decide_eq_true_eq] at b6
      have hcast : (Cond.castable E E).before args s = true := va_Nw.use rfl (hK.2.2.2.2.2.2.1 E b4)
      obtain ⟨sa, hsa⟩ := hK.2.2.2.1 _ b5
      have hat : ∀ w ∈ vx_atS own ic E exN, w.before args s = true := fun w hw => by
        rcases b6 w hw with h | h | h
        · exact hts w h
        · rw [h]; exact hcast
        · obtain ⟨x, hx1, rfl⟩ := List.mem_map.mp h
          exact va_Nw.use rfl (hK.2.2.2.2.2.2.2 x hx1)
      have hgood : ∀ w ∈ Cond.classLink own i E :: Cond.initialized E :: vx_atS own ic E exN, vx_ot w = true := by
        intro w hw
        have hor : w ∈ TB ∨ w = .castable E E ∨ w ∈ decL.map Cond.declares := by
          rcases List.mem_cons.mp hw with e | hw
          · rw [e]; exact Or.inl b2
          · rcases List.mem_cons.mp hw with e | hw
            · rw [e]; exact Or.inl b3
            · exact b6 w hw
        rcases hor with h | h | h
        · unfold vx_ot; rw [(TB_good h).2]; simp
        · rw [h]; rfl
        · obtain ⟨x, -, rfl⟩ := List.mem_map.mp h
          rfl
      simp only [cond_true] at h
      intro H locs ls hP hS hL hl0
      dsimp only at hP hL hl0 ⊢
      have hU := vx_Zq.narrow hK.2.1 (AG_lo hG)
      have hN := vx_Zq.narrow hK.2.2.1 (AG_lo hG)
      have hout : ∀ q : Nat, ∀ x ∈ c.exceptionTable.toList, covers x q = false := fun q x hx => by rw [htab, hhs] at hx; cases hx
      have hroom : ((st.map (cv G)).map fun v => v.category).sum + (13 * (exN.length + 1) + 43) ≤ R.locals := by
        rw [cv_cats]
        show catS st + (13 * (2 + 1) + 43) ≤ R.locals
        omega
      have fin : ∀ E', o0 = .inr E' → M0 = M → ∀ t : State, s.vm.Alike t.vm → H.size ≤ t.heap.size → (∀ q : Nat, q < H.size → t.heap[q]? = H[q]?) → XcW G C.cs o0 M0 sz E' s t := by
        intro E' h1 h2 t _ h3 h4
        subst h2
        refine ⟨h1, hP.kept (fun j q hq => h4 q.1 (hP j q hq).lt), Nat.le_trans hS.1 h3, fun q hq hA => ?_⟩
        rw [h4 q (Nat.lt_of_lt_of_le hq hS.1)]
        exact hS.2.1 q hq hA
      split at h
      · rename_i j h3 h4
        split at h
        · rename_i z h6 h9
          cases hjz : (Nat.beq j is && Nat.beq z ic) with
          | false => rw [hjz] at h; cases h
          | true =>
            rw [hjz] at h
            simp only [Bool.and_eq_true] at hjz
            obtain rfl := Nat.eq_of_beq_eq_true hjz.1
            obtain rfl := Nat.eq_of_beq_eq_true hjz.2
            cases h
            have d3 : decode cc (pc + 3) = .ok (.dup, 1) := hcode (pc + 3, .dup, 1) (lk_mem h3)
            have d4 : decode cc (pc + 4) = .ok (.ldc j, 2) := hcode (pc + 4, .ldc j, 2) (lk_mem h4)
            have d6 : decode cc (pc + 6) = .ok (.invokespecial z, 3) := hcode (pc + 6, .invokespecial z, 3) (lk_mem h6)
            have d9 : decode cc (pc + 9) = .ok (.athrow, 1) := hcode (pc + 9, .athrow, 1) (lk_mem h9)
            have hx9 := fin E hF.1.symm hF.2.symm
            refine W.eq rfl (vx_throwS hx hb hst hown (excL_fit E b4) exN_fit (hts _ b2) (hts _ b3) hsa hat hgood hU hN hS (by rw [hl0.1, hml]) hd d3 d4 d6 d9 (hout _) (by show 2 + 3 < R.frames; omega) hroom (by omega) (by omega) hlocks hx9 hS.2.2 (by omega) (by omega))
        · cases h
      · rename_i j h3 h4
        split at h
        · rename_i z h6 h9
          cases hjz : (Nat.beq j is && Nat.beq z ic) with
          | false => rw [hjz] at h; cases h
          | true =>
            rw [hjz] at h
            simp only [Bool.and_eq_true] at hjz
            obtain rfl := Nat.eq_of_beq_eq_true hjz.1
            obtain rfl := Nat.eq_of_beq_eq_true hjz.2
            cases h
            have d3 : decode cc (pc + 3) = .ok (.dup, 1) := hcode (pc + 3, .dup, 1) (lk_mem h3)
            have d4 : decode cc (pc + 4) = .ok (.ldc_w j, 3) := hcode (pc + 4, .ldc_w j, 3) (lk_mem h4)
            have d6 : decode cc (pc + 7) = .ok (.invokespecial z, 3) := hcode (pc + 7, .invokespecial z, 3) (lk_mem h6)
            have d9 : decode cc (pc + 10) = .ok (.athrow, 1) := hcode (pc + 10, .athrow, 1) (lk_mem h9)
            have hx9 := fin E hF.1.symm hF.2.symm
            refine W.eq rfl (vx_throwSW hx hb hst hown (excL_fit E b4) exN_fit (hts _ b2) (hts _ b3) hsa hat hgood hU hN hS (by rw [hl0.1, hml]) hd d3 d4 d6 d9 (hout _) (by show 2 + 3 < R.frames; omega) hroom (by omega) (by omega) hlocks hx9 hS.2.2 (by omega) (by omega))
        · cases h
      · cases h
  · cases h
end SndR
