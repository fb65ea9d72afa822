/-! A RUN OF THE MACHINE THAT ENDS IS A CONTRACT -/
/-- a class's tables for a method are good -/
def CfgOK (own : String) (cc : ByteArray) (C : Cfg) (d : Nat) : Prop :=
  (∀ x ∈ C.code, decode cc x.1 = .ok x.2) ∧ C.cs.Nodup ∧ (∀ e ∈ C.fld, fldb own e = true) ∧ (∀ e ∈ C.calls, CallOK own C.cs d e) ∧ (∀ e ∈ C.ints, Cond.constant own e.1 e.2 ∈ TB) ∧ (∀ e ∈ C.longs, Cond.constantLong own e.1 e.2 ∈ TB) ∧ (∀ e ∈ C.excs, excb own d e = true) ∧ HsOK own C
section SndO
variable {p : Program} {l : Launch} {e : Env} {R : Room} {s : State} {m : MethodId} {args : Array Value} {below : List Frame} {meth : Method} {c : Code} {G : Gh} {C : Cfg} {nL sz mc d : Nat} {B : Bd} {cc : ByteArray} {own : String} {o0 : Res} {M0 : Mem}
variable {pc n k : Nat} {lo : List (Option Value)} {st : List Value} {M : Mem} {r : St ⊕ Ou}
set_option maxHeartbeats 4000000 in
theorem xi_ok (X : CxS p l R s m args meth c G C nL sz mc d B cc own) (hC : CfgOK own cc C d) (hX : ScrOK C G (AG G C.cs sz) s) (hk : k ≤ mc) : ∀ (i : Instr), decode cc pc = .ok (i, n) → lenok (ilen i) n = true → xi C pc lo st M k n i = some r → FinR p l e R s m args below meth c (QM below G C o0 M0 sz B args s) (AG G C.cs sz) G C nL B o0 M0 r →
    AW p l e R s m args below meth c (QM below G C o0 M0 sz B args s) (AG G C.cs sz) G C nL B (pc, lo, st, M, k) := by
  have X9 := X
  obtain ⟨hfix, hK, hG, hsz, hnd0, hst, hlocks, hret, hcapE, hRc, hRs, hRf, hRl, hMM, htab⟩ := X
  obtain ⟨hx, hb, hml, hown, hts⟩ := id hfix
  obtain ⟨hcode, -, hfld, hcalls, hints, hlongs, hexcs, hH⟩ := hC
  intro i hd hn h hF
  cases i
  case iconst a0 => exact sn_iconst hx hb hd (Nat.eq_of_beq_eq_true hn).symm h hF
  case bipush a0 => exact sn_bipush hx hb hd (Nat.eq_of_beq_eq_true hn).symm h hF
  case sipush a0 => exact sn_sipush hx hb hd (Nat.eq_of_beq_eq_true hn).symm h hF
  case lconst a0 => exact sn_lconst hx hb hd (Nat.eq_of_beq_eq_true hn).symm h hF
  case iload_n a0 => exact sn_iload_n hx hb hd (Nat.eq_of_beq_eq_true hn).symm h hF
  case iload a0 => exact sn_iload hx hb hd (Nat.eq_of_beq_eq_true hn).symm h hF
  case lload_n a0 => exact sn_lload_n hx hb hd (Nat.eq_of_beq_eq_true hn).symm h hF
  case lload a0 => exact sn_lload hx hb hd (Nat.eq_of_beq_eq_true hn).symm h hF
  case aload_n a0 => exact sn_aload_n hx hb hd (Nat.eq_of_beq_eq_true hn).symm h hF
  case aload a0 => exact sn_aload hx hb hd (Nat.eq_of_beq_eq_true hn).symm h hF
  case istore_n a0 => exact sn_istore_n hx hb hd (Nat.eq_of_beq_eq_true hn).symm h hF
  case istore a0 => exact sn_istore hx hb hd (Nat.eq_of_beq_eq_true hn).symm h hF
  case lstore_n a0 => exact sn_lstore_n hx hb hd (Nat.eq_of_beq_eq_true hn).symm h hF
  case lstore a0 => exact sn_lstore hx hb hd (Nat.eq_of_beq_eq_true hn).symm h hF
  case astore_n a0 => exact sn_astore_n hx hb hd (Nat.eq_of_beq_eq_true hn).symm h hF
  case astore a0 => exact sn_astore hx hb hd (Nat.eq_of_beq_eq_true hn).symm h hF
  case iadd => exact sn_iadd hx hb hd (Nat.eq_of_beq_eq_true hn).symm h hF
  case isub => exact sn_isub hx hb hd (Nat.eq_of_beq_eq_true hn).symm h hF
  case ineg => exact sn_ineg hx hb hd (Nat.eq_of_beq_eq_true hn).symm h hF
  case imul => exact sn_imul hx hb hd (Nat.eq_of_beq_eq_true hn).symm h hF
  case iand => exact sn_iand hx hb hd (Nat.eq_of_beq_eq_true hn).symm h hF
  case ior => exact sn_ior hx hb hd (Nat.eq_of_beq_eq_true hn).symm h hF
  case ixor => exact sn_ixor hx hb hd (Nat.eq_of_beq_eq_true hn).symm h hF
  case ishl => exact sn_ishl hx hb hd (Nat.eq_of_beq_eq_true hn).symm h hF
  case iushr => exact sn_iushr hx hb hd (Nat.eq_of_beq_eq_true hn).symm h hF
  case ladd => exact sn_ladd hx hb hd (Nat.eq_of_beq_eq_true hn).symm h hF
  case lsub => exact sn_lsub hx hb hd (Nat.eq_of_beq_eq_true hn).symm h hF
  case lmul => exact sn_lmul hx hb hd (Nat.eq_of_beq_eq_true hn).symm h hF
  case land => exact sn_land hx hb hd (Nat.eq_of_beq_eq_true hn).symm h hF
  case lor => exact sn_lor hx hb hd (Nat.eq_of_beq_eq_true hn).symm h hF
  case lxor => exact sn_lxor hx hb hd (Nat.eq_of_beq_eq_true hn).symm h hF
  case lshl => exact sn_lshl hx hb hd (Nat.eq_of_beq_eq_true hn).symm h hF
  case lushr => exact sn_lushr hx hb hd (Nat.eq_of_beq_eq_true hn).symm h hF
  case i2l => exact sn_i2l hx hb hd (Nat.eq_of_beq_eq_true hn).symm h hF
  case l2i => exact sn_l2i hx hb hd (Nat.eq_of_beq_eq_true hn).symm h hF
  case idiv => exact sn_idiv hx hb hd (Nat.eq_of_beq_eq_true hn).symm h hF
  case irem => exact sn_irem hx hb hd (Nat.eq_of_beq_eq_true hn).symm h hF
  case lrem => exact sn_lrem hx hb hd (Nat.eq_of_beq_eq_true hn).symm h hF
  case lcmp => exact sn_lcmp hx hb hd (Nat.eq_of_beq_eq_true hn).symm h hF
  case dup => exact sn_dup hx hb hd (Nat.eq_of_beq_eq_true hn).symm h hF
  case dup2 => exact sn_dup2 hx hb hd (Nat.eq_of_beq_eq_true hn).symm h hF
  case goto a0 => exact sn_goto hx hb hd (Nat.eq_of_beq_eq_true hn).symm h hF
  case iinc a0 a1 => exact sn_iinc hx hb hd (Nat.eq_of_beq_eq_true hn).symm h hF
  case ldc a0 => exact sn_ldc hx hb hown (fun e he => hts _ (hints e he)) hd (Nat.eq_of_beq_eq_true hn).symm h hF
  case ldc_w a0 => exact sn_ldc_w hx hb hown (fun e he => hts _ (hints e he)) hd (Nat.eq_of_beq_eq_true hn).symm h hF
  case ldc2_w a0 => exact sn_ldc2_w hx hb hown (fun e he => hts _ (hlongs e he)) hd (Nat.eq_of_beq_eq_true hn).symm h hF
  case ifCond op off =>
    cases op
    case eq => exact sn_ifCond_eq hx hb hd (Nat.eq_of_beq_eq_true hn).symm h hF
    case ne => exact sn_ifCond_ne hx hb hd (Nat.eq_of_beq_eq_true hn).symm h hF
    case lt => exact sn_ifCond_lt hx hb hd (Nat.eq_of_beq_eq_true hn).symm h hF
    case ge => exact sn_ifCond_ge hx hb hd (Nat.eq_of_beq_eq_true hn).symm h hF
    case gt => exact sn_ifCond_gt hx hb hd (Nat.eq_of_beq_eq_true hn).symm h hF
    case le => exact sn_ifCond_le hx hb hd (Nat.eq_of_beq_eq_true hn).symm h hF
  case if_icmp op off =>
    cases op
    case eq => exact sn_if_icmp_eq hx hb hd (Nat.eq_of_beq_eq_true hn).symm h hF
    case ne => exact sn_if_icmp_ne hx hb hd (Nat.eq_of_beq_eq_true hn).symm h hF
    case lt => exact sn_if_icmp_lt hx hb hd (Nat.eq_of_beq_eq_true hn).symm h hF
    case ge => exact sn_if_icmp_ge hx hb hd (Nat.eq_of_beq_eq_true hn).symm h hF
    case gt => exact sn_if_icmp_gt hx hb hd (Nat.eq_of_beq_eq_true hn).symm h hF
    case le => exact sn_if_icmp_le hx hb hd (Nat.eq_of_beq_eq_true hn).symm h hF
  case tableswitch a0 a1 a2 a3 => exact sn_tableswitch hx hb hd h hF
  case getfield a0 => exact sn_getfield hx hb hts hown hK.1 hfld hd (Nat.eq_of_beq_eq_true hn).symm h hF
  case putfield a0 => exact sn_putfield hx hb hts hown hK.1 hnd0 hG hfld hd (Nat.eq_of_beq_eq_true hn).symm h hF
  case iaload => exact sn_iaload hx hb hK.1 hX hd (Nat.eq_of_beq_eq_true hn).symm h hF
  case laload => exact sn_laload hx hb hK.1 hd (Nat.eq_of_beq_eq_true hn).symm h hF
  case iastore => exact sn_iastore hx hb hK.1 hnd0 hG hd (Nat.eq_of_beq_eq_true hn).symm h hF
  case lastore => exact sn_lastore hx hb hK.1 hnd0 hG hd (Nat.eq_of_beq_eq_true hn).symm h hF
  case arraylength => exact sn_arraylength hx hb hK.1 hX hd (Nat.eq_of_beq_eq_true hn).symm h hF
  case invokestatic i =>
    have hn3 : n = 3 := (Nat.eq_of_beq_eq_true hn).symm
    subst hn3
    simp only [xi] at h
    split at h
    · rename_i e1 he1
      exact sn_call X9 hH hcode (fun e he => hts _ (hlongs e he)) (hcalls _ (lk_mem he1)) (Or.inl ⟨rfl, hd⟩) h hF
    · cases h
  case invokevirtual i =>
    have hn3 : n = 3 := (Nat.eq_of_beq_eq_true hn).symm
    subst hn3
    simp only [xi] at h
    split at h
    · rename_i e1 he1
      exact sn_call X9 hH hcode (fun e he => hts _ (hlongs e he)) (hcalls _ (lk_mem he1)) (Or.inr ⟨rfl, hd⟩) h hF
    · cases h
  case new a0 => exact sn_new X9 hexcs hcode hd (Nat.eq_of_beq_eq_true hn).symm h hF
  case ireturn => exact sn_ireturn X9 hd (Nat.eq_of_beq_eq_true hn).symm hk h hF
  case lreturn => exact sn_lreturn X9 hd (Nat.eq_of_beq_eq_true hn).symm hk h hF
  case return_ => exact sn_return_ X9 hd (Nat.eq_of_beq_eq_true hn).symm hk h hF
  all_goals exact absurd (show (none : Option (St ⊕ Ou)) = some r from h) (fun z => by cases z)
theorem stp_ok (X : CxS p l R s m args meth c G C nL sz mc d B cc own) (hC : CfgOK own cc C d) (hX : ScrOK C G (AG G C.cs sz) s) {x : St} (h : stp C x = some r) (hF : FinR p l e R s m args below meth c (QM below G C o0 M0 sz B args s) (AG G C.cs sz) G C nL B o0 M0 r) : AW p l e R s m args below meth c (QM below G C o0 M0 sz B args s) (AG G C.cs sz) G C nL B x := by
  obtain ⟨pc, lo, st, M, k⟩ := x
  unfold stp at h
  split at h
  · rename_i i n hl
    dsimp only at hl h
    cases hg : (lenok (ilen i) n && Nat.ble k C.cap) with
    | false => rw [hg] at h; cases h
    | true =>
      rw [hg] at h
      simp only [Bool.and_eq_true] at hg
      have hk : k ≤ mc := by
        have := Nat.le_of_ble_eq_true hg.2
        rwa [X.2.2.2.2.2.2.2.2.1] at this
      have hd : decode cc pc = .ok (i, n) := hC.1 (pc, i, n) (lk_mem hl)
      exact xi_ok X hC hX hk i hd hg.1 h hF
  · cases h
theorem run_ok (X : CxS p l R s m args meth c G C nL sz mc d B cc own) (hC : CfgOK own cc C d) (hX : ScrOK C G (AG G C.cs sz) s) : ∀ (n : Nat) (x : St) (r : St ⊕ Ou), run C n x = some r → FinR p l e R s m args below meth c (QM below G C o0 M0 sz B args s) (AG G C.cs sz) G C nL B o0 M0 r → AW p l e R s m args below meth c (QM below G C o0 M0 sz B args s) (AG G C.cs sz) G C nL B x
  | 0, x, r, h, hF => by cases h; exact hF
  | n + 1, x, r, h, hF => by
    unfold run at h
    split at h
    · rename_i y hy
      exact stp_ok X hC hX hy (run_ok X hC hX n y r h hF)
    · rename_i hne
      exact stp_ok X hC hX h hF
theorem fgt_len (is : List Nat) : ∀ lo : List (Option Value), (fgt is lo).length = lo.length := by
  induction is with
  | nil => exact fun _ => rfl
  | cons i r ih => intro lo; show (fgt r (lo.set i none)).length = _; rw [ih]; simp
theorem fgt_get (is : List Nat) : ∀ (lo : List (Option Value)) (j : Nat) (v : Value), (fgt is lo)[j]? = some (some v) → lo[j]? = some (some v) := by
  induction is with
  | nil => exact fun _ _ _ h => h
  | cons i r ih =>
    intro lo j v h
    have h1 := ih (lo.set i none) j v h
    by_cases e : j = i
    · subst e
      have hl := (List.getElem?_eq_some_iff.mp h1).1
      rw [List.getElem?_set_self (by simpa using hl)] at h1
      cases h1
    · rwa [List.getElem?_set_ne (Ne.symm e)] at h1
theorem runA_ok (X : CxS p l R s m args meth c G C nL sz mc d B cc own) (hC : CfgOK own cc C d) (hX : ScrOK C G (AG G C.cs sz) s) : ∀ (n : List (Nat ⊕ List Nat)) (x : St) (r : St ⊕ Ou), runA C n x = some r → FinR p l e R s m args below meth c (QM below G C o0 M0 sz B args s) (AG G C.cs sz) G C nL B o0 M0 r → AW p l e R s m args below meth c (QM below G C o0 M0 sz B args s) (AG G C.cs sz) G C nL B x
  | [], x, r, h, hF => by cases h; exact hF
  | .inl n :: q, x, r, h, hF => by
    unfold runA at h
    split at h
    · rename_i y hy
      exact run_ok X hC hX n x _ hy (runA_ok X hC hX q y r h hF)
    · exact run_ok X hC hX n x _ h hF
  | .inr is :: q, x, r, h, hF => by
    have h1 := runA_ok X hC hX q _ r h hF
    intro H locs ls hP hS hL hl
    exact h1 H locs ls hP hS (by show (fgt is x.2.1).length = nL; rw [fgt_len]; exact hL) (lv_less hl (by
      rintro ⟨i, v⟩ hq
      obtain ⟨w, hw, rfl⟩ := lvl_mem.mp hq
      exact lvl_mem.mpr ⟨w, fgt_get is x.2.1 i w hw, rfl⟩))
end SndO
/-- the locals with which a method begins -/
def lo0 : List Value → List (Option Value)
  | [] => []
  | .long x :: r => some (.long x) :: none :: lo0 r
  | v :: r => some v :: lo0 r
def ini (nL : Nat) (av : List Value) (M : Mem) : St := (0, lo0 av ++ List.replicate (nL - (lo0 av).length) none, [], M, 0)
theorem lo0_len : ∀ av : List Value, (∀ v ∈ av, ∀ z, v ≠ .double z) → (lo0 av).length = (lg_sl av).length
  | [], _ => rfl
  | v :: r, h => by
    have ih := lo0_len r (fun w hw => h w (List.mem_cons_of_mem _ hw))
    cases v with
    | double z => exact absurd rfl (h _ List.mem_cons_self z)
    | long z => show _ = ([Slot.val (.long z), Slot.second] ++ lg_sl r).length; simp [lo0, ih]
    | int z => show _ = ([Slot.val (.int z)] ++ lg_sl r).length; simp [lo0, ih]
    | float z => show _ = ([Slot.val (.float z)] ++ lg_sl r).length; simp [lo0, ih]
    | null => show _ = ([Slot.val .null] ++ lg_sl r).length; simp [lo0, ih]
    | ref z => show _ = ([Slot.val (.ref z)] ++ lg_sl r).length; simp [lo0, ih]
    | retAddr z => show _ = ([Slot.val (.retAddr z)] ++ lg_sl r).length; simp [lo0, ih]
theorem lo0_args (G : Gh) : ∀ (av : List Value) (b : Nat), (∀ v ∈ av, ∀ z, v ≠ .double z) → ∀ (i : Nat) (v : Value), (lo0 av)[i]? = some (some v) → (b + i, cv G v) ∈ lv_args b (av.map (cv G))
  | [], b, _, i, v, h => by simp [lo0] at h
  | w :: r, b, hd, i, v, h => by
    have ih := lo0_args G r
    have hd' : ∀ v ∈ r, ∀ z, v ≠ .double z := fun w hw => hd w (List.mem_cons_of_mem _ hw)
    cases w with
    | double z => exact absurd rfl (hd _ List.mem_cons_self z)
    | long x =>
      match i, h with
      | 0, h => simp [lo0] at h; subst h; simp [lv_args, cv]
      | 1, h => simp [lo0] at h
      | j + 2, h =>
        have h' : (lo0 r)[j]? = some (some v) := by simpa [lo0] using h
        have := ih (b + 2) hd' j v h'
        rw [show b + 2 + j = b + (j + 2) by omega] at this
        exact (show _ ∈ (b, cv G (.long x)) :: lv_args (b + 2) (r.map (cv G)) from List.mem_cons_of_mem _ this)
    | _ =>
      match i, h with
      | 0, h => simp [lo0] at h; subst h; simp [lv_args, cv]
      | j + 1, h =>
        have h' : (lo0 r)[j]? = some (some v) := by simpa [lo0] using h
        have := ih (b + 1) hd' j v h'
        rw [show b + 1 + j = b + (j + 1) by omega] at this
        exact (show _ ∈ _ :: lv_args (b + 1) (r.map (cv G)) from List.mem_cons_of_mem _ this)
theorem ini_has (G : Gh) {nL : Nat} {av : List Value} (hd : ∀ v ∈ av, ∀ z, v ≠ .double z) (hn : (lo0 av).length ≤ nL) (M : Mem) : lv_has ((lg_sl (av.map (cv G)) ++ List.replicate (nL - (lg_sl (av.map (cv G))).length) Slot.unset).toArray) nL (lvl G (ini nL av M).2.1) := by
  have hlen : (lg_sl (av.map (cv G))).length = (lo0 av).length := by
    rw [← lo0_len (av.map (cv G)) ?_]
    · clear hn hd
      induction av with
      | nil => rfl
      | cons v r ih => cases v <;> simp [lo0, cv] at ih ⊢ <;> exact ih
    · intro v hv z h
      obtain ⟨w, hw, rfl⟩ := List.mem_map.mp hv
      cases w <;> simp [cv] at h
      exact hd _ hw _ rfl
  have h := lv_entry (av.map (cv G)) (n := nL) (by rw [hlen]; exact hn)
  refine lv_less h ?_
  rintro ⟨i, v⟩ hq
  obtain ⟨w, hw, rfl⟩ := lvl_mem.mp hq
  unfold ini at hw
  dsimp only at hw
  by_cases hi : i < (lo0 av).length
  · rw [List.getElem?_append_left hi] at hw
    have := lo0_args G av 0 hd i w hw
    rwa [Nat.zero_add] at this
  · rw [List.getElem?_append_right (by omega)] at hw
    rw [List.getElem?_replicate] at hw
    split at hw <;> cases hw
def nodbl (av : List Value) : Bool := av.all fun v => match v with
  | .double _ => false
  | _ => true
theorem nodbl_sp {av : List Value} (h : nodbl av = true) : ∀ v ∈ av, ∀ z, v ≠ .double z := by
  intro v hv z e
  have := List.all_eq_true.mp h v hv
  rw [e] at this
  cases this
/-- A METHOD WITHOUT HANDLERS: where the machine's run from its start ends as f says, the contract holds -/
theorem OkM_of {own : String} {y : MethodName} {cc : ByteArray} {maxL : Nat} {ret : Option FieldType} {C : Cfg} {d mc : Nat} {f : Fn} (hy : plainName y.cls = true) (hyo : y.cls = own) (hC : CfgOK own cc C d) (hhs : C.hs = []) (hret : C.ret = ret) (hcap : C.cap = mc) (hscr : C.scr = none)
    (hf : ∀ av M o M', f av M = some (o, M') → nodbl av = true ∧ (lo0 av).length ≤ maxL ∧ Rend C (ini maxL av M) o M') : OkM C.cs y (.code y cc maxL ret) d mc f := by
  intro l hl G sz av M o M' hfo
  obtain ⟨hdb0, hle, n, k, hrun⟩ := hf av M o M' hfo
  have hdb := nodbl_sp hdb0
  refine vx_ofW (cc := cc) (maxL := maxL) (ret := ret) (ws' := TB) hy rfl ?_
  intro p e s m args below meth c s₁ B hml htab hv
  obtain ⟨rfl, hsz, hP, hK, hG⟩ := hv
  have hts : ∀ w ∈ TB, w.before (av.map (cv G)).toArray s = true := fun w hw => atoms_spec (ws := Cond.code y cc maxL ret :: TB) B.pre w (List.mem_cons_of_mem _ hw)
  have X : CxS p l { frames := d, cells := mc, slots := 6 * mc, locals := 48 * d } s m (av.map (cv G)).toArray meth c G C maxL sz mc d (0, 0, mc, 6 * mc) cc own :=
    ⟨⟨B.exec, B.bytes, hml, by rw [← hyo]; exact findClass_of_methodNamed B.named, hts⟩, hK, hG, hsz, hC.2.1, hl, B.notSynchronized, by rw [hret]; exact B.returns, hcap, Nat.le_of_eq (Nat.zero_add _), Nat.le_of_eq (Nat.zero_add _), Nat.le_refl _, Nat.le_refl _, ⟨Nat.le_of_eq (Nat.zero_add _), Nat.le_of_eq (Nat.zero_add _)⟩, by
      rw [hhs]
      cases htl : c.exceptionTable.toList with
      | nil => rfl
      | cons x r => exact (htab x (by rw [htl]; exact List.mem_cons_self)).elim⟩
  have hA := runA_ok (e := e) (below := below) X hC (fun L xs h => by rw [hscr] at h; cases h) n _ _ hrun ⟨rfl, rfl⟩
  rw [show (av.map (cv G)).toArray = ((av.map (cv G)) : List Value).toArray from rfl, lg_entry_eq]
  exact hA s.heap [] _ hP va_S.rf (by simp [ini]; omega) (ini_has G hdb hle M)
/-- .. and with handlers -/
theorem OkM_ofH {own : String} {y : MethodName} {cc : ByteArray} {maxL : Nat} {ret : Option FieldType} {hh : HH} {C : Cfg} {d mc : Nat} {f : Fn} (hy : plainName y.cls = true) (hyo : y.cls = own) (hC : CfgOK own cc C d) (hhs : C.hs.map (fun h => (h.1, h.2.1, h.2.2.1, h.2.2.2.1)) = hh) (hret : C.ret = ret) (hcap : C.cap = mc) (hscr : C.scr = none)
    (hf : ∀ av M o M', f av M = some (o, M') → nodbl av = true ∧ (lo0 av).length ≤ maxL ∧ Rend C (ini maxL av M) o M') : OkM C.cs y (.codeWith y cc maxL ret hh) d mc f := by
  intro l hl G sz av M o M' hfo
  obtain ⟨hdb0, hle, n, k, hrun⟩ := hf av M o M' hfo
  have hdb := nodbl_sp hdb0
  refine vx_ofWH (cc := cc) (maxL := maxL) (ret := ret) (ws' := TB) hy rfl ?_
  intro p e s m args below meth c s₁ B hml hv
  obtain ⟨rfl, hsz, hP, hK, hG⟩ := hv
  have hts : ∀ w ∈ TB, w.before (av.map (cv G)).toArray s = true := fun w hw => atoms_spec (ws := Cond.codeWith y cc maxL ret hh :: TB) B.pre w (List.mem_cons_of_mem _ hw)
  have htab := vx_table (x := y) B (atoms_spec (ws := Cond.codeWith y cc maxL ret hh :: TB) B.pre _ List.mem_cons_self)
  have X : CxS p l { frames := d, cells := mc, slots := 6 * mc, locals := 48 * d } s m (av.map (cv G)).toArray meth c G C maxL sz mc d (0, 0, mc, 6 * mc) cc own :=
    ⟨⟨B.exec, B.bytes, hml, by rw [← hyo]; exact findClass_of_methodNamed B.named, hts⟩, hK, hG, hsz, hC.2.1, hl, B.notSynchronized, by rw [hret]; exact B.returns, hcap, Nat.le_of_eq (Nat.zero_add _), Nat.le_of_eq (Nat.zero_add _), Nat.le_refl _, Nat.le_refl _, ⟨Nat.le_of_eq (Nat.zero_add _), Nat.le_of_eq (Nat.zero_add _)⟩, by
      rw [hhs]; exact htab⟩
  have hA := runA_ok (e := e) (below := below) X hC (fun L xs h => by rw [hscr] at h; cases h) n _ _ hrun ⟨rfl, rfl⟩
  rw [show (av.map (cv G)).toArray = ((av.map (cv G)) : List Value).toArray from rfl, lg_entry_eq]
  exact hA s.heap [] _ hP va_S.rf (by simp [ini]; omega) (ini_has G hdb hle M)
