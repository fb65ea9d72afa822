/-! THE CONSTRUCTORS -/
def wC (y : MethodName) (cc : ByteArray) : List Cond := Cond.code y cc 1 none :: TB
theorem tb_obj : Cond.instanceMethod objectInit ∈ TB ∧ Cond.code objectInit ⟨#[0xb1]⟩ 1 none ∈ TB := by decide +kernel
theorem tb_aI : Cond.arrayClass .int ∈ TB := by decide +kernel
theorem tb_aJ : Cond.arrayClass .long ∈ TB := by decide +kernel
/-- one class for all arrays of ints, longs, booleans -/
theorem K_int {D : va_G} {cl : List vw_C} {tys : List (ClassId × FieldType)} {U : State} {a b : ClassId} (h : va_K D cl tys U) (i j : Nat) (hi : tys[i]? = some (a, .int)) (hj : tys[j]? = some (b, .int)) : a = b := by
  have h1 : U.vm.findClass ("[" ++ (FieldType.int).toString) = some a := (h.2 i _ hi).2
  have h2 : U.vm.findClass ("[" ++ (FieldType.int).toString) = some b := (h.2 j _ hj).2
  exact Option.some.inj (h1.symm.trans h2)
theorem K_long {D : va_G} {cl : List vw_C} {tys : List (ClassId × FieldType)} {U : State} {a b : ClassId} (h : va_K D cl tys U) (i j : Nat) (hi : tys[i]? = some (a, .long)) (hj : tys[j]? = some (b, .long)) : a = b := by
  have h1 : U.vm.findClass ("[" ++ (FieldType.long).toString) = some a := (h.2 i _ hi).2
  have h2 : U.vm.findClass ("[" ++ (FieldType.long).toString) = some b := (h.2 j _ hj).2
  exact Option.some.inj (h1.symm.trans h2)
theorem dIX0_0 : decode cX0_init 0 = .ok (.aload_n 0, 1) := by decide +kernel
theorem dIX0_1 : decode cX0_init 1 = .ok (.invokespecial 3, 3) := by decide +kernel
theorem dIX0_4 : decode cX0_init 4 = .ok (.aload_n 0, 1) := by decide +kernel
theorem dIX0_5 : decode cX0_init 5 = .ok (.sipush 1024, 3) := by decide +kernel
theorem dIX0_8 : decode cX0_init 8 = .ok (.newarray .int, 2) := by decide +kernel
theorem dIX0_10 : decode cX0_init 10 = .ok (.putfield 9, 3) := by decide +kernel
theorem dIX0_13 : decode cX0_init 13 = .ok (.return_, 1) := by decide +kernel
theorem tb_X0_o : Cond.methodLink RX0 3 objectInit ∈ TB := by decide +kernel
theorem tb_X0_9 : Cond.fieldLink RX0 9 "Sumsetry$Game" "lost" "[I" ∈ TB := by decide +kernel
/-- what Sumsetry$Game() leaves: the arrays' places u.1, the classes of arrays u.2 (int, long, boolean) -/
def wl_X0 (h0 : Nat) (u : (Nat → Nat) × (Nat → ClassId)) : va_W := [(h0, .inr (0, [.ref (u.1 0)])), ((u.1 0), .inl ((u.2 0), 1024, .inl (fun _ => 0)))]
set_option maxHeartbeats 4000000 in
set_option maxRecDepth 100000 in
theorem i_X0 (l : Launch) (D : va_G) (h0 sz : Nat) : Met l yX0_init (wC yX0_init cX0_init) ({ frames := 1, cells := 1, slots := 1024, locals := 12 }) (va_Pc [.ref h0] (fun U => U.heap.size = sz ∧ va_P D vwCl [(h0, .inr (0, [.null]))] U.heap ∧ va_K D vwCl [] U ∧ va_D (fun _ => True) [(h0, .inr (0, [.null]))])) (va_Qv (fun _ : (Nat → Nat) × (Nat → ClassId) => True) (fun u U => va_P D vwCl (wl_X0 h0 u) U.heap ∧ va_K D vwCl [((u.2 0), .int)] U ∧ va_D (va_A [(h0, .inr (0, [.null]))] sz) (wl_X0 h0 u)) (va_A [(h0, .inr (0, [.null]))] sz)) 1 1024 (va_A [(h0, .inr (0, [.null]))] sz) := by
  refine Met.ofW (cc := cX0_init) (maxL := 1) (ret := none) (by decide) rfl ?_
  intro p e s m args below meth c s₁ B hml hv
  obtain ⟨rfl, hsz, hP, hK, hD0⟩ := hv
  have hx := B.exec
  have hb := B.bytes
  have hr := B.returns
  have hts0 := atoms_spec (ws := wC yX0_init cX0_init) B.pre
  have hts : ∀ w ∈ TB, w.before _ s = true := fun w hw => hts0 w (List.mem_cons_of_mem _ hw)
  have hown : s.vm.findClass RX0 = some m.cls := findClass_of_methodNamed B.named
  have hin : meth.name = "<init>" := (name_of_methodNamed B.named B.method).1
  subst hsz
  have hD := hD0.self (sz := s.heap.size)
  generalize hAe : va_A [(h0, .inr (0, [.null]))] s.heap.size = A at hD ⊢
  have hA : ∀ q : Nat, s.heap.size ≤ q → A q := fun q h => by rw [← hAe]; exact Or.inr h
  have hS : va_S A s.heap s.heap [] := va_S.rf
  have hP : va_P D vwCl [(h0, .inr (0, [.null]))] s.heap := hP
  have hl := lv_entry ([.ref h0]) (n := 1) (Nat.le_of_ble_eq_true rfl)
  rw [lg_entry_eq]
  generalize (lg_sl ([.ref h0]) ++ List.replicate (1 - (lg_sl ([.ref h0])).length) Slot.unset).toArray = ls at hl ⊢
  have hl : lv_has ls 1 [(0, .ref h0)] := hl
  refine lv_aload_n hx hb dIX0_0 rfl (lv_at hl 0 rfl) ?_
  refine W.objInit hx hb hown (hts _ tb_X0_o) (hts _ tb_obj.1) (hts _ tb_obj.2) rfl (by rw [hml]; exact hl.1) rfl dIX0_1 (Nat.le_of_ble_eq_true rfl) (Nat.le_of_ble_eq_true rfl) ?_
  refine W.eq (g2 := F0 m 4 ls []) rfl ?_
  refine lv_aload_n hx hb dIX0_4 rfl (lv_at hl 0 rfl) ?_
  refine lv_sipush hx hb dIX0_5 (v := 1024) (by decide +kernel) ?_
  refine va_newa (atype := .int) (ty := .int) (N' := 1024) (a0 := (1024, .inl (fun _ => 0))) hx hb (hts _ tb_aI) rfl hK hP hD hS hA (fun _ => rfl) (by decide) (by decide) (Nat.le_of_ble_eq_true rfl) (Nat.le_of_ble_eq_true rfl) (Nat.le_of_ble_eq_true rfl) dIX0_8 (fun q0 cI H hK hP hD hS => ?_)
  have hP : va_P D vwCl [(h0, .inr (0, [.null])), (q0, .inl (cI, 1024, .inl (fun _ => 0)))] H := hP
  have hD : va_D A [(h0, .inr (0, [.null])), (q0, .inl (cI, 1024, .inl (fun _ => 0)))] := hD
  have hK : va_K D vwCl [(cI, .int)] s := hK
  refine va_putF (D := D) (ci := 0) (v := .ref q0) (ty := .array .int) (C := RX0) (T := TX0) (N := 1) hx hb hts (cls_ok 0 _ rfl).1 tyX0 tyX0_ok nmX0 hown hK hP hD hS 0 rfl rfl 0 (by decide) (hts _ tb_X0_9) (fun _ h9 => h9) rfl hin rfl (by decide +kernel) rfl rfl (Nat.le_of_ble_eq_true rfl) dIX0_10 (fun H locs hP hD hS => ?_)
  have hP : va_P D vwCl [(h0, .inr (0, [.ref q0])), (q0, .inl (cI, 1024, .inl (fun _ => 0)))] H := hP
  have hD : va_D A [(h0, .inr (0, [.ref q0])), (q0, .inl (cI, 1024, .inl (fun _ => 0)))] := hD
  exact W.vret hx hb hr (fun t ht hW => ⟨⟨(fun _ => q0, fun k => match k with | 0 => cI | 1 => cI | _ => cI), rfl, trivial, by rw [ht]; exact hP, va_K.moved hW.alike hK, hD⟩, hS.F ht⟩) hS.2.2 dIX0_13
theorem dIX2_0 : decode cX2_init 0 = .ok (.aload_n 0, 1) := by decide +kernel
theorem dIX2_1 : decode cX2_init 1 = .ok (.invokespecial 3, 3) := by decide +kernel
theorem dIX2_4 : decode cX2_init 4 = .ok (.aload_n 0, 1) := by decide +kernel
theorem dIX2_5 : decode cX2_init 5 = .ok (.bipush 6, 2) := by decide +kernel
theorem dIX2_7 : decode cX2_init 7 = .ok (.newarray .int, 2) := by decide +kernel
theorem dIX2_9 : decode cX2_init 9 = .ok (.putfield 9, 3) := by decide +kernel
theorem dIX2_12 : decode cX2_init 12 = .ok (.aload_n 0, 1) := by decide +kernel
theorem dIX2_13 : decode cX2_init 13 = .ok (.bipush 6, 2) := by decide +kernel
theorem dIX2_15 : decode cX2_init 15 = .ok (.newarray .int, 2) := by decide +kernel
theorem dIX2_17 : decode cX2_init 17 = .ok (.putfield 15, 3) := by decide +kernel
theorem dIX2_20 : decode cX2_init 20 = .ok (.aload_n 0, 1) := by decide +kernel
theorem dIX2_21 : decode cX2_init 21 = .ok (.bipush 6, 2) := by decide +kernel
theorem dIX2_23 : decode cX2_init 23 = .ok (.newarray .int, 2) := by decide +kernel
theorem dIX2_25 : decode cX2_init 25 = .ok (.putfield 18, 3) := by decide +kernel
theorem dIX2_28 : decode cX2_init 28 = .ok (.aload_n 0, 1) := by decide +kernel
theorem dIX2_29 : decode cX2_init 29 = .ok (.bipush 6, 2) := by decide +kernel
theorem dIX2_31 : decode cX2_init 31 = .ok (.newarray .int, 2) := by decide +kernel
theorem dIX2_33 : decode cX2_init 33 = .ok (.putfield 21, 3) := by decide +kernel
theorem dIX2_36 : decode cX2_init 36 = .ok (.aload_n 0, 1) := by decide +kernel
theorem dIX2_37 : decode cX2_init 37 = .ok (.bipush 56, 2) := by decide +kernel
theorem dIX2_39 : decode cX2_init 39 = .ok (.newarray .int, 2) := by decide +kernel
theorem dIX2_41 : decode cX2_init 41 = .ok (.putfield 24, 3) := by decide +kernel
theorem dIX2_44 : decode cX2_init 44 = .ok (.aload_n 0, 1) := by decide +kernel
theorem dIX2_45 : decode cX2_init 45 = .ok (.bipush 56, 2) := by decide +kernel
theorem dIX2_47 : decode cX2_init 47 = .ok (.newarray .int, 2) := by decide +kernel
theorem dIX2_49 : decode cX2_init 49 = .ok (.putfield 27, 3) := by decide +kernel
theorem dIX2_52 : decode cX2_init 52 = .ok (.aload_n 0, 1) := by decide +kernel
theorem dIX2_53 : decode cX2_init 53 = .ok (.bipush 36, 2) := by decide +kernel
theorem dIX2_55 : decode cX2_init 55 = .ok (.newarray .int, 2) := by decide +kernel
theorem dIX2_57 : decode cX2_init 57 = .ok (.putfield 30, 3) := by decide +kernel
theorem dIX2_60 : decode cX2_init 60 = .ok (.return_, 1) := by decide +kernel
theorem tb_X2_o : Cond.methodLink RX2 3 objectInit ∈ TB := by decide +kernel
theorem tb_X2_9 : Cond.fieldLink RX2 9 "Sumsetry$Maps" "from" "[I" ∈ TB := by decide +kernel
theorem tb_X2_15 : Cond.fieldLink RX2 15 "Sumsetry$Maps" "to" "[I" ∈ TB := by decide +kernel
theorem tb_X2_18 : Cond.fieldLink RX2 18 "Sumsetry$Maps" "given" "[I" ∈ TB := by decide +kernel
theorem tb_X2_21 : Cond.fieldLink RX2 21 "Sumsetry$Maps" "firstGiven" "[I" ∈ TB := by decide +kernel
theorem tb_X2_24 : Cond.fieldLink RX2 24 "Sumsetry$Maps" "firstAlike" "[I" ∈ TB := by decide +kernel
theorem tb_X2_27 : Cond.fieldLink RX2 27 "Sumsetry$Maps" "sumGiven" "[I" ∈ TB := by decide +kernel
theorem tb_X2_30 : Cond.fieldLink RX2 30 "Sumsetry$Maps" "firstTo" "[I" ∈ TB := by decide +kernel
/-- what Sumsetry$Maps() leaves: the arrays' places u.1, the classes of arrays u.2 (int, long, boolean) -/
def wl_X2 (h0 : Nat) (u : (Nat → Nat) × (Nat → ClassId)) : va_W := [(h0, .inr (2, [.ref (u.1 0), .ref (u.1 1), .ref (u.1 2), .ref (u.1 3), .ref (u.1 4), .ref (u.1 5), .ref (u.1 6), .int 0, .int 0, .int 0])), ((u.1 0), .inl ((u.2 0), 6, .inl (fun _ => 0))), ((u.1 1), .inl ((u.2 0), 6, .inl (fun _ => 0))), ((u.1 2), .inl ((u.2 0), 6, .inl (fun _ => 0))), ((u.1 3), .inl ((u.2 0), 6, .inl (fun _ => 0))), ((u.1 4), .inl ((u.2 0), 56, .inl (fun _ => 0))), ((u.1 5), .inl ((u.2 0), 56, .inl (fun _ => 0))), ((u.1 6), .inl ((u.2 0), 36, .inl (fun _ => 0)))]
set_option maxHeartbeats 4000000 in
set_option maxRecDepth 100000 in
theorem i_X2 (l : Launch) (D : va_G) (h0 sz : Nat) : Met l yX2_init (wC yX2_init cX2_init) ({ frames := 1, cells := 7, slots := 172, locals := 12 }) (va_Pc [.ref h0] (fun U => U.heap.size = sz ∧ va_P D vwCl [(h0, .inr (2, [.null, .null, .null, .null, .null, .null, .null, .int 0, .int 0, .int 0]))] U.heap ∧ va_K D vwCl [] U ∧ va_D (fun _ => True) [(h0, .inr (2, [.null, .null, .null, .null, .null, .null, .null, .int 0, .int 0, .int 0]))])) (va_Qv (fun _ : (Nat → Nat) × (Nat → ClassId) => True) (fun u U => va_P D vwCl (wl_X2 h0 u) U.heap ∧ va_K D vwCl [((u.2 0), .int)] U ∧ va_D (va_A [(h0, .inr (2, [.null, .null, .null, .null, .null, .null, .null, .int 0, .int 0, .int 0]))] sz) (wl_X2 h0 u)) (va_A [(h0, .inr (2, [.null, .null, .null, .null, .null, .null, .null, .int 0, .int 0, .int 0]))] sz)) 7 172 (va_A [(h0, .inr (2, [.null, .null, .null, .null, .null, .null, .null, .int 0, .int 0, .int 0]))] sz) := by
  refine Met.ofW (cc := cX2_init) (maxL := 1) (ret := none) (by decide) rfl ?_
  intro p e s m args below meth c s₁ B hml hv
  obtain ⟨rfl, hsz, hP, hK, hD0⟩ := hv
  have hx := B.exec
  have hb := B.bytes
  have hr := B.returns
  have hts0 := atoms_spec (ws := wC yX2_init cX2_init) B.pre
  have hts : ∀ w ∈ TB, w.before _ s = true := fun w hw => hts0 w (List.mem_cons_of_mem _ hw)
  have hown : s.vm.findClass RX2 = some m.cls := findClass_of_methodNamed B.named
  have hin : meth.name = "<init>" := (name_of_methodNamed B.named B.method).1
  subst hsz
  have hD := hD0.self (sz := s.heap.size)
  generalize hAe : va_A [(h0, .inr (2, [.null, .null, .null, .null, .null, .null, .null, .int 0, .int 0, .int 0]))] s.heap.size = A at hD ⊢
  have hA : ∀ q : Nat, s.heap.size ≤ q → A q := fun q h => by rw [← hAe]; exact Or.inr h
  have hS : va_S A s.heap s.heap [] := va_S.rf
  have hP : va_P D vwCl [(h0, .inr (2, [.null, .null, .null, .null, .null, .null, .null, .int 0, .int 0, .int 0]))] s.heap := hP
  have hl := lv_entry ([.ref h0]) (n := 1) (Nat.le_of_ble_eq_true rfl)
  rw [lg_entry_eq]
  generalize (lg_sl ([.ref h0]) ++ List.replicate (1 - (lg_sl ([.ref h0])).length) Slot.unset).toArray = ls at hl ⊢
  have hl : lv_has ls 1 [(0, .ref h0)] := hl
  refine lv_aload_n hx hb dIX2_0 rfl (lv_at hl 0 rfl) ?_
  refine W.objInit hx hb hown (hts _ tb_X2_o) (hts _ tb_obj.1) (hts _ tb_obj.2) rfl (by rw [hml]; exact hl.1) rfl dIX2_1 (Nat.le_of_ble_eq_true rfl) (Nat.le_of_ble_eq_true rfl) ?_
  refine W.eq (g2 := F0 m 4 ls []) rfl ?_
  refine lv_aload_n hx hb dIX2_4 rfl (lv_at hl 0 rfl) ?_
  refine lv_bipush hx hb dIX2_5 (v := 6) (by decide +kernel) ?_
  refine va_newa (atype := .int) (ty := .int) (N' := 6) (a0 := (6, .inl (fun _ => 0))) hx hb (hts _ tb_aI) rfl hK hP hD hS hA (fun _ => rfl) (by decide) (by decide) (Nat.le_of_ble_eq_true rfl) (Nat.le_of_ble_eq_true rfl) (Nat.le_of_ble_eq_true rfl) dIX2_7 (fun q0 cI H hK hP hD hS => ?_)
  have hP : va_P D vwCl [(h0, .inr (2, [.null, .null, .null, .null, .null, .null, .null, .int 0, .int 0, .int 0])), (q0, .inl (cI, 6, .inl (fun _ => 0)))] H := hP
  have hD : va_D A [(h0, .inr (2, [.null, .null, .null, .null, .null, .null, .null, .int 0, .int 0, .int 0])), (q0, .inl (cI, 6, .inl (fun _ => 0)))] := hD
  have hK : va_K D vwCl [(cI, .int)] s := hK
  refine va_putF (D := D) (ci := 2) (v := .ref q0) (ty := .array .int) (C := RX2) (T := TX2) (N := 10) hx hb hts (cls_ok 2 _ rfl).1 tyX2 tyX2_ok nmX2 hown hK hP hD hS 0 rfl rfl 0 (by decide) (hts _ tb_X2_9) (fun _ h9 => h9) rfl hin rfl (by decide +kernel) rfl rfl (Nat.le_of_ble_eq_true rfl) dIX2_9 (fun H locs hP hD hS => ?_)
  have hP : va_P D vwCl [(h0, .inr (2, [.ref q0, .null, .null, .null, .null, .null, .null, .int 0, .int 0, .int 0])), (q0, .inl (cI, 6, .inl (fun _ => 0)))] H := hP
  have hD : va_D A [(h0, .inr (2, [.ref q0, .null, .null, .null, .null, .null, .null, .int 0, .int 0, .int 0])), (q0, .inl (cI, 6, .inl (fun _ => 0)))] := hD
  refine lv_aload_n hx hb dIX2_12 rfl (lv_at hl 0 rfl) ?_
  refine lv_bipush hx hb dIX2_13 (v := 6) (by decide +kernel) ?_
  refine va_newa (atype := .int) (ty := .int) (N' := 6) (a0 := (6, .inl (fun _ => 0))) hx hb (hts _ tb_aI) rfl hK hP hD hS hA (fun _ => rfl) (by decide) (by decide) (Nat.le_of_ble_eq_true rfl) (Nat.le_of_ble_eq_true rfl) (Nat.le_of_ble_eq_true rfl) dIX2_15 (fun q1 cN H hK hP hD hS => ?_)
  have eN := K_int hK 0 1 rfl rfl
  subst eN
  have hK := hK.sub (tys' := [(cI, .int)]) [0] rfl
  have hP : va_P D vwCl [(h0, .inr (2, [.ref q0, .null, .null, .null, .null, .null, .null, .int 0, .int 0, .int 0])), (q0, .inl (cI, 6, .inl (fun _ => 0))), (q1, .inl (cI, 6, .inl (fun _ => 0)))] H := hP
  have hD : va_D A [(h0, .inr (2, [.ref q0, .null, .null, .null, .null, .null, .null, .int 0, .int 0, .int 0])), (q0, .inl (cI, 6, .inl (fun _ => 0))), (q1, .inl (cI, 6, .inl (fun _ => 0)))] := hD
  have hK : va_K D vwCl [(cI, .int)] s := hK
  refine va_putF (D := D) (ci := 2) (v := .ref q1) (ty := .array .int) (C := RX2) (T := TX2) (N := 10) hx hb hts (cls_ok 2 _ rfl).1 tyX2 tyX2_ok nmX2 hown hK hP hD hS 0 rfl rfl 1 (by decide) (hts _ tb_X2_15) (fun _ h9 => h9) rfl hin rfl (by decide +kernel) rfl rfl (Nat.le_of_ble_eq_true rfl) dIX2_17 (fun H locs hP hD hS => ?_)
  have hP : va_P D vwCl [(h0, .inr (2, [.ref q0, .ref q1, .null, .null, .null, .null, .null, .int 0, .int 0, .int 0])), (q0, .inl (cI, 6, .inl (fun _ => 0))), (q1, .inl (cI, 6, .inl (fun _ => 0)))] H := hP
  have hD : va_D A [(h0, .inr (2, [.ref q0, .ref q1, .null, .null, .null, .null, .null, .int 0, .int 0, .int 0])), (q0, .inl (cI, 6, .inl (fun _ => 0))), (q1, .inl (cI, 6, .inl (fun _ => 0)))] := hD
  refine lv_aload_n hx hb dIX2_20 rfl (lv_at hl 0 rfl) ?_
  refine lv_bipush hx hb dIX2_21 (v := 6) (by decide +kernel) ?_
  refine va_newa (atype := .int) (ty := .int) (N' := 6) (a0 := (6, .inl (fun _ => 0))) hx hb (hts _ tb_aI) rfl hK hP hD hS hA (fun _ => rfl) (by decide) (by decide) (Nat.le_of_ble_eq_true rfl) (Nat.le_of_ble_eq_true rfl) (Nat.le_of_ble_eq_true rfl) dIX2_23 (fun q2 cN H hK hP hD hS => ?_)
  have eN := K_int hK 0 1 rfl rfl
  subst eN
  have hK := hK.sub (tys' := [(cI, .int)]) [0] rfl
  have hP : va_P D vwCl [(h0, .inr (2, [.ref q0, .ref q1, .null, .null, .null, .null, .null, .int 0, .int 0, .int 0])), (q0, .inl (cI, 6, .inl (fun _ => 0))), (q1, .inl (cI, 6, .inl (fun _ => 0))), (q2, .inl (cI, 6, .inl (fun _ => 0)))] H := hP
  have hD : va_D A [(h0, .inr (2, [.ref q0, .ref q1, .null, .null, .null, .null, .null, .int 0, .int 0, .int 0])), (q0, .inl (cI, 6, .inl (fun _ => 0))), (q1, .inl (cI, 6, .inl (fun _ => 0))), (q2, .inl (cI, 6, .inl (fun _ => 0)))] := hD
  have hK : va_K D vwCl [(cI, .int)] s := hK
  refine va_putF (D := D) (ci := 2) (v := .ref q2) (ty := .array .int) (C := RX2) (T := TX2) (N := 10) hx hb hts (cls_ok 2 _ rfl).1 tyX2 tyX2_ok nmX2 hown hK hP hD hS 0 rfl rfl 2 (by decide) (hts _ tb_X2_18) (fun _ h9 => h9) rfl hin rfl (by decide +kernel) rfl rfl (Nat.le_of_ble_eq_true rfl) dIX2_25 (fun H locs hP hD hS => ?_)
  have hP : va_P D vwCl [(h0, .inr (2, [.ref q0, .ref q1, .ref q2, .null, .null, .null, .null, .int 0, .int 0, .int 0])), (q0, .inl (cI, 6, .inl (fun _ => 0))), (q1, .inl (cI, 6, .inl (fun _ => 0))), (q2, .inl (cI, 6, .inl (fun _ => 0)))] H := hP
  have hD : va_D A [(h0, .inr (2, [.ref q0, .ref q1, .ref q2, .null, .null, .null, .null, .int 0, .int 0, .int 0])), (q0, .inl (cI, 6, .inl (fun _ => 0))), (q1, .inl (cI, 6, .inl (fun _ => 0))), (q2, .inl (cI, 6, .inl (fun _ => 0)))] := hD
  refine lv_aload_n hx hb dIX2_28 rfl (lv_at hl 0 rfl) ?_
  refine lv_bipush hx hb dIX2_29 (v := 6) (by decide +kernel) ?_
  refine va_newa (atype := .int) (ty := .int) (N' := 6) (a0 := (6, .inl (fun _ => 0))) hx hb (hts _ tb_aI) rfl hK hP hD hS hA (fun _ => rfl) (by decide) (by decide) (Nat.le_of_ble_eq_true rfl) (Nat.le_of_ble_eq_true rfl) (Nat.le_of_ble_eq_true rfl) dIX2_31 (fun q3 cN H hK hP hD hS => ?_)
  have eN := K_int hK 0 1 rfl rfl
  subst eN
  have hK := hK.sub (tys' := [(cI, .int)]) [0] rfl
  have hP : va_P D vwCl [(h0, .inr (2, [.ref q0, .ref q1, .ref q2, .null, .null, .null, .null, .int 0, .int 0, .int 0])), (q0, .inl (cI, 6, .inl (fun _ => 0))), (q1, .inl (cI, 6, .inl (fun _ => 0))), (q2, .inl (cI, 6, .inl (fun _ => 0))), (q3, .inl (cI, 6, .inl (fun _ => 0)))] H := hP
  have hD : va_D A [(h0, .inr (2, [.ref q0, .ref q1, .ref q2, .null, .null, .null, .null, .int 0, .int 0, .int 0])), (q0, .inl (cI, 6, .inl (fun _ => 0))), (q1, .inl (cI, 6, .inl (fun _ => 0))), (q2, .inl (cI, 6, .inl (fun _ => 0))), (q3, .inl (cI, 6, .inl (fun _ => 0)))] := hD
  have hK : va_K D vwCl [(cI, .int)] s := hK
  refine va_putF (D := D) (ci := 2) (v := .ref q3) (ty := .array .int) (C := RX2) (T := TX2) (N := 10) hx hb hts (cls_ok 2 _ rfl).1 tyX2 tyX2_ok nmX2 hown hK hP hD hS 0 rfl rfl 3 (by decide) (hts _ tb_X2_21) (fun _ h9 => h9) rfl hin rfl (by decide +kernel) rfl rfl (Nat.le_of_ble_eq_true rfl) dIX2_33 (fun H locs hP hD hS => ?_)
  have hP : va_P D vwCl [(h0, .inr (2, [.ref q0, .ref q1, .ref q2, .ref q3, .null, .null, .null, .int 0, .int 0, .int 0])), (q0, .inl (cI, 6, .inl (fun _ => 0))), (q1, .inl (cI, 6, .inl (fun _ => 0))), (q2, .inl (cI, 6, .inl (fun _ => 0))), (q3, .inl (cI, 6, .inl (fun _ => 0)))] H := hP
  have hD : va_D A [(h0, .inr (2, [.ref q0, .ref q1, .ref q2, .ref q3, .null, .null, .null, .int 0, .int 0, .int 0])), (q0, .inl (cI, 6, .inl (fun _ => 0))), (q1, .inl (cI, 6, .inl (fun _ => 0))), (q2, .inl (cI, 6, .inl (fun _ => 0))), (q3, .inl (cI, 6, .inl (fun _ => 0)))] := hD
  refine lv_aload_n hx hb dIX2_36 rfl (lv_at hl 0 rfl) ?_
  refine lv_bipush hx hb dIX2_37 (v := 56) (by decide +kernel) ?_
  refine va_newa (atype := .int) (ty := .int) (N' := 56) (a0 := (56, .inl (fun _ => 0))) hx hb (hts _ tb_aI) rfl hK hP hD hS hA (fun _ => rfl) (by decide) (by decide) (Nat.le_of_ble_eq_true rfl) (Nat.le_of_ble_eq_true rfl) (Nat.le_of_ble_eq_true rfl) dIX2_39 (fun q4 cN H hK hP hD hS => ?_)
  have eN := K_int hK 0 1 rfl rfl
  subst eN
  have hK := hK.sub (tys' := [(cI, .int)]) [0] rfl
  have hP : va_P D vwCl [(h0, .inr (2, [.ref q0, .ref q1, .ref q2, .ref q3, .null, .null, .null, .int 0, .int 0, .int 0])), (q0, .inl (cI, 6, .inl (fun _ => 0))), (q1, .inl (cI, 6, .inl (fun _ => 0))), (q2, .inl (cI, 6, .inl (fun _ => 0))), (q3, .inl (cI, 6, .inl (fun _ => 0))), (q4, .inl (cI, 56, .inl (fun _ => 0)))] H := hP
  have hD : va_D A [(h0, .inr (2, [.ref q0, .ref q1, .ref q2, .ref q3, .null, .null, .null, .int 0, .int 0, .int 0])), (q0, .inl (cI, 6, .inl (fun _ => 0))), (q1, .inl (cI, 6, .inl (fun _ => 0))), (q2, .inl (cI, 6, .inl (fun _ => 0))), (q3, .inl (cI, 6, .inl (fun _ => 0))), (q4, .inl (cI, 56, .inl (fun _ => 0)))] := hD
  have hK : va_K D vwCl [(cI, .int)] s := hK
  refine va_putF (D := D) (ci := 2) (v := .ref q4) (ty := .array .int) (C := RX2) (T := TX2) (N := 10) hx hb hts (cls_ok 2 _ rfl).1 tyX2 tyX2_ok nmX2 hown hK hP hD hS 0 rfl rfl 4 (by decide) (hts _ tb_X2_24) (fun _ h9 => h9) rfl hin rfl (by decide +kernel) rfl rfl (Nat.le_of_ble_eq_true rfl) dIX2_41 (fun H locs hP hD hS => ?_)
  have hP : va_P D vwCl [(h0, .inr (2, [.ref q0, .ref q1, .ref q2, .ref q3, .ref q4, .null, .null, .int 0, .int 0, .int 0])), (q0, .inl (cI, 6, .inl (fun _ => 0))), (q1, .inl (cI, 6, .inl (fun _ => 0))), (q2, .inl (cI, 6, .inl (fun _ => 0))), (q3, .inl (cI, 6, .inl (fun _ => 0))), (q4, .inl (cI, 56, .inl (fun _ => 0)))] H := hP
  have hD : va_D A [(h0, .inr (2, [.ref q0, .ref q1, .ref q2, .ref q3, .ref q4, .null, .null, .int 0, .int 0, .int 0])), (q0, .inl (cI, 6, .inl (fun _ => 0))), (q1, .inl (cI, 6, .inl (fun _ => 0))), (q2, .inl (cI, 6, .inl (fun _ => 0))), (q3, .inl (cI, 6, .inl (fun _ => 0))), (q4, .inl (cI, 56, .inl (fun _ => 0)))] := hD
  refine lv_aload_n hx hb dIX2_44 rfl (lv_at hl 0 rfl) ?_
  refine lv_bipush hx hb dIX2_45 (v := 56) (by decide +kernel) ?_
  refine va_newa (atype := .int) (ty := .int) (N' := 56) (a0 := (56, .inl (fun _ => 0))) hx hb (hts _ tb_aI) rfl hK hP hD hS hA (fun _ => rfl) (by decide) (by decide) (Nat.le_of_ble_eq_true rfl) (Nat.le_of_ble_eq_true rfl) (Nat.le_of_ble_eq_true rfl) dIX2_47 (fun q5 cN H hK hP hD hS => ?_)
  have eN := K_int hK 0 1 rfl rfl
  subst eN
  have hK := hK.sub (tys' := [(cI, .int)]) [0] rfl
  have hP : va_P D vwCl [(h0, .inr (2, [.ref q0, .ref q1, .ref q2, .ref q3, .ref q4, .null, .null, .int 0, .int 0, .int 0])), (q0, .inl (cI, 6, .inl (fun _ => 0))), (q1, .inl (cI, 6, .inl (fun _ => 0))), (q2, .inl (cI, 6, .inl (fun _ => 0))), (q3, .inl (cI, 6, .inl (fun _ => 0))), (q4, .inl (cI, 56, .inl (fun _ => 0))), (q5, .inl (cI, 56, .inl (fun _ => 0)))] H := hP
  have hD : va_D A [(h0, .inr (2, [.ref q0, .ref q1, .ref q2, .ref q3, .ref q4, .null, .null, .int 0, .int 0, .int 0])), (q0, .inl (cI, 6, .inl (fun _ => 0))), (q1, .inl (cI, 6, .inl (fun _ => 0))), (q2, .inl (cI, 6, .inl (fun _ => 0))), (q3, .inl (cI, 6, .inl (fun _ => 0))), (q4, .inl (cI, 56, .inl (fun _ => 0))), (q5, .inl (cI, 56, .inl (fun _ => 0)))] := hD
  have hK : va_K D vwCl [(cI, .int)] s := hK
  refine va_putF (D := D) (ci := 2) (v := .ref q5) (ty := .array .int) (C := RX2) (T := TX2) (N := 10) hx hb hts (cls_ok 2 _ rfl).1 tyX2 tyX2_ok nmX2 hown hK hP hD hS 0 rfl rfl 5 (by decide) (hts _ tb_X2_27) (fun _ h9 => h9) rfl hin rfl (by decide +kernel) rfl rfl (Nat.le_of_ble_eq_true rfl) dIX2_49 (fun H locs hP hD hS => ?_)
  have hP : va_P D vwCl [(h0, .inr (2, [.ref q0, .ref q1, .ref q2, .ref q3, .ref q4, .ref q5, .null, .int 0, .int 0, .int 0])), (q0, .inl (cI, 6, .inl (fun _ => 0))), (q1, .inl (cI, 6, .inl (fun _ => 0))), (q2, .inl (cI, 6, .inl (fun _ => 0))), (q3, .inl (cI, 6, .inl (fun _ => 0))), (q4, .inl (cI, 56, .inl (fun _ => 0))), (q5, .inl (cI, 56, .inl (fun _ => 0)))] H := hP
  have hD : va_D A [(h0, .inr (2, [.ref q0, .ref q1, .ref q2, .ref q3, .ref q4, .ref q5, .null, .int 0, .int 0, .int 0])), (q0, .inl (cI, 6, .inl (fun _ => 0))), (q1, .inl (cI, 6, .inl (fun _ => 0))), (q2, .inl (cI, 6, .inl (fun _ => 0))), (q3, .inl (cI, 6, .inl (fun _ => 0))), (q4, .inl (cI, 56, .inl (fun _ => 0))), (q5, .inl (cI, 56, .inl (fun _ => 0)))] := hD
  refine lv_aload_n hx hb dIX2_52 rfl (lv_at hl 0 rfl) ?_
  refine lv_bipush hx hb dIX2_53 (v := 36) (by decide +kernel) ?_
  refine va_newa (atype := .int) (ty := .int) (N' := 36) (a0 := (36, .inl (fun _ => 0))) hx hb (hts _ tb_aI) rfl hK hP hD hS hA (fun _ => rfl) (by decide) (by decide) (Nat.le_of_ble_eq_true rfl) (Nat.le_of_ble_eq_true rfl) (Nat.le_of_ble_eq_true rfl) dIX2_55 (fun q6 cN H hK hP hD hS => ?_)
  have eN := K_int hK 0 1 rfl rfl
  subst eN
  have hK := hK.sub (tys' := [(cI, .int)]) [0] rfl
  have hP : va_P D vwCl [(h0, .inr (2, [.ref q0, .ref q1, .ref q2, .ref q3, .ref q4, .ref q5, .null, .int 0, .int 0, .int 0])), (q0, .inl (cI, 6, .inl (fun _ => 0))), (q1, .inl (cI, 6, .inl (fun _ => 0))), (q2, .inl (cI, 6, .inl (fun _ => 0))), (q3, .inl (cI, 6, .inl (fun _ => 0))), (q4, .inl (cI, 56, .inl (fun _ => 0))), (q5, .inl (cI, 56, .inl (fun _ => 0))), (q6, .inl (cI, 36, .inl (fun _ => 0)))] H := hP
  have hD : va_D A [(h0, .inr (2, [.ref q0, .ref q1, .ref q2, .ref q3, .ref q4, .ref q5, .null, .int 0, .int 0, .int 0])), (q0, .inl (cI, 6, .inl (fun _ => 0))), (q1, .inl (cI, 6, .inl (fun _ => 0))), (q2, .inl (cI, 6, .inl (fun _ => 0))), (q3, .inl (cI, 6, .inl (fun _ => 0))), (q4, .inl (cI, 56, .inl (fun _ => 0))), (q5, .inl (cI, 56, .inl (fun _ => 0))), (q6, .inl (cI, 36, .inl (fun _ => 0)))] := hD
  have hK : va_K D vwCl [(cI, .int)] s := hK
  refine va_putF (D := D) (ci := 2) (v := .ref q6) (ty := .array .int) (C := RX2) (T := TX2) (N := 10) hx hb hts (cls_ok 2 _ rfl).1 tyX2 tyX2_ok nmX2 hown hK hP hD hS 0 rfl rfl 6 (by decide) (hts _ tb_X2_30) (fun _ h9 => h9) rfl hin rfl (by decide +kernel) rfl rfl (Nat.le_of_ble_eq_true rfl) dIX2_57 (fun H locs hP hD hS => ?_)
  have hP : va_P D vwCl [(h0, .inr (2, [.ref q0, .ref q1, .ref q2, .ref q3, .ref q4, .ref q5, .ref q6, .int 0, .int 0, .int 0])), (q0, .inl (cI, 6, .inl (fun _ => 0))), (q1, .inl (cI, 6, .inl (fun _ => 0))), (q2, .inl (cI, 6, .inl (fun _ => 0))), (q3, .inl (cI, 6, .inl (fun _ => 0))), (q4, .inl (cI, 56, .inl (fun _ => 0))), (q5, .inl (cI, 56, .inl (fun _ => 0))), (q6, .inl (cI, 36, .inl (fun _ => 0)))] H := hP
  have hD : va_D A [(h0, .inr (2, [.ref q0, .ref q1, .ref q2, .ref q3, .ref q4, .ref q5, .ref q6, .int 0, .int 0, .int 0])), (q0, .inl (cI, 6, .inl (fun _ => 0))), (q1, .inl (cI, 6, .inl (fun _ => 0))), (q2, .inl (cI, 6, .inl (fun _ => 0))), (q3, .inl (cI, 6, .inl (fun _ => 0))), (q4, .inl (cI, 56, .inl (fun _ => 0))), (q5, .inl (cI, 56, .inl (fun _ => 0))), (q6, .inl (cI, 36, .inl (fun _ => 0)))] := hD
  exact W.vret hx hb hr (fun t ht hW => ⟨⟨(fun k => match k with | 0 => q0 | 1 => q1 | 2 => q2 | 3 => q3 | 4 => q4 | 5 => q5 | _ => q6, fun k => match k with | 0 => cI | 1 => cI | _ => cI), rfl, trivial, by rw [ht]; exact hP, va_K.moved hW.alike hK, hD⟩, hS.F ht⟩) hS.2.2 dIX2_60
theorem dIX3_0 : decode cX3_init 0 = .ok (.aload_n 0, 1) := by decide +kernel
theorem dIX3_1 : decode cX3_init 1 = .ok (.invokespecial 3, 3) := by decide +kernel
theorem dIX3_4 : decode cX3_init 4 = .ok (.aload_n 0, 1) := by decide +kernel
theorem dIX3_5 : decode cX3_init 5 = .ok (.bipush 12, 2) := by decide +kernel
theorem dIX3_7 : decode cX3_init 7 = .ok (.newarray .int, 2) := by decide +kernel
theorem dIX3_9 : decode cX3_init 9 = .ok (.putfield 9, 3) := by decide +kernel
theorem dIX3_12 : decode cX3_init 12 = .ok (.aload_n 0, 1) := by decide +kernel
theorem dIX3_13 : decode cX3_init 13 = .ok (.sipush 4096, 3) := by decide +kernel
theorem dIX3_16 : decode cX3_init 16 = .ok (.newarray .int, 2) := by decide +kernel
theorem dIX3_18 : decode cX3_init 18 = .ok (.putfield 15, 3) := by decide +kernel
theorem dIX3_21 : decode cX3_init 21 = .ok (.return_, 1) := by decide +kernel
theorem tb_X3_o : Cond.methodLink RX3 3 objectInit ∈ TB := by decide +kernel
theorem tb_X3_9 : Cond.fieldLink RX3 9 "Sumsetry$Row" "places" "[I" ∈ TB := by decide +kernel
theorem tb_X3_15 : Cond.fieldLink RX3 15 "Sumsetry$Row" "partSums" "[I" ∈ TB := by decide +kernel
/-- what Sumsetry$Row() leaves: the arrays' places u.1, the classes of arrays u.2 (int, long, boolean) -/
def wl_X3 (h0 : Nat) (u : (Nat → Nat) × (Nat → ClassId)) : va_W := [(h0, .inr (3, [.ref (u.1 0), .ref (u.1 1), .int 0])), ((u.1 0), .inl ((u.2 0), 12, .inl (fun _ => 0))), ((u.1 1), .inl ((u.2 0), 4096, .inl (fun _ => 0)))]
set_option maxHeartbeats 4000000 in
set_option maxRecDepth 100000 in
theorem i_X3 (l : Launch) (D : va_G) (h0 sz : Nat) : Met l yX3_init (wC yX3_init cX3_init) ({ frames := 1, cells := 2, slots := 4108, locals := 12 }) (va_Pc [.ref h0] (fun U => U.heap.size = sz ∧ va_P D vwCl [(h0, .inr (3, [.null, .null, .int 0]))] U.heap ∧ va_K D vwCl [] U ∧ va_D (fun _ => True) [(h0, .inr (3, [.null, .null, .int 0]))])) (va_Qv (fun _ : (Nat → Nat) × (Nat → ClassId) => True) (fun u U => va_P D vwCl (wl_X3 h0 u) U.heap ∧ va_K D vwCl [((u.2 0), .int)] U ∧ va_D (va_A [(h0, .inr (3, [.null, .null, .int 0]))] sz) (wl_X3 h0 u)) (va_A [(h0, .inr (3, [.null, .null, .int 0]))] sz)) 2 4108 (va_A [(h0, .inr (3, [.null, .null, .int 0]))] sz) := by
  refine Met.ofW (cc := cX3_init) (maxL := 1) (ret := none) (by decide) rfl ?_
  intro p e s m args below meth c s₁ B hml hv
  obtain ⟨rfl, hsz, hP, hK, hD0⟩ := hv
  have hx := B.exec
  have hb := B.bytes
  have hr := B.returns
  have hts0 := atoms_spec (ws := wC yX3_init cX3_init) B.pre
  have hts : ∀ w ∈ TB, w.before _ s = true := fun w hw => hts0 w (List.mem_cons_of_mem _ hw)
  have hown : s.vm.findClass RX3 = some m.cls := findClass_of_methodNamed B.named
  have hin : meth.name = "<init>" := (name_of_methodNamed B.named B.method).1
  subst hsz
  have hD := hD0.self (sz := s.heap.size)
  generalize hAe : va_A [(h0, .inr (3, [.null, .null, .int 0]))] s.heap.size = A at hD ⊢
  have hA : ∀ q : Nat, s.heap.size ≤ q → A q := fun q h => by rw [← hAe]; exact Or.inr h
  have hS : va_S A s.heap s.heap [] := va_S.rf
  have hP : va_P D vwCl [(h0, .inr (3, [.null, .null, .int 0]))] s.heap := hP
  have hl := lv_entry ([.ref h0]) (n := 1) (Nat.le_of_ble_eq_true rfl)
  rw [lg_entry_eq]
  generalize (lg_sl ([.ref h0]) ++ List.replicate (1 - (lg_sl ([.ref h0])).length) Slot.unset).toArray = ls at hl ⊢
  have hl : lv_has ls 1 [(0, .ref h0)] := hl
  refine lv_aload_n hx hb dIX3_0 rfl (lv_at hl 0 rfl) ?_
  refine W.objInit hx hb hown (hts _ tb_X3_o) (hts _ tb_obj.1) (hts _ tb_obj.2) rfl (by rw [hml]; exact hl.1) rfl dIX3_1 (Nat.le_of_ble_eq_true rfl) (Nat.le_of_ble_eq_true rfl) ?_
  refine W.eq (g2 := F0 m 4 ls []) rfl ?_
  refine lv_aload_n hx hb dIX3_4 rfl (lv_at hl 0 rfl) ?_
  refine lv_bipush hx hb dIX3_5 (v := 12) (by decide +kernel) ?_
  refine va_newa (atype := .int) (ty := .int) (N' := 12) (a0 := (12, .inl (fun _ => 0))) hx hb (hts _ tb_aI) rfl hK hP hD hS hA (fun _ => rfl) (by decide) (by decide) (Nat.le_of_ble_eq_true rfl) (Nat.le_of_ble_eq_true rfl) (Nat.le_of_ble_eq_true rfl) dIX3_7 (fun q0 cI H hK hP hD hS => ?_)
  have hP : va_P D vwCl [(h0, .inr (3, [.null, .null, .int 0])), (q0, .inl (cI, 12, .inl (fun _ => 0)))] H := hP
  have hD : va_D A [(h0, .inr (3, [.null, .null, .int 0])), (q0, .inl (cI, 12, .inl (fun _ => 0)))] := hD
  have hK : va_K D vwCl [(cI, .int)] s := hK
  refine va_putF (D := D) (ci := 3) (v := .ref q0) (ty := .array .int) (C := RX3) (T := TX3) (N := 3) hx hb hts (cls_ok 3 _ rfl).1 tyX3 tyX3_ok nmX3 hown hK hP hD hS 0 rfl rfl 0 (by decide) (hts _ tb_X3_9) (fun _ h9 => h9) rfl hin rfl (by decide +kernel) rfl rfl (Nat.le_of_ble_eq_true rfl) dIX3_9 (fun H locs hP hD hS => ?_)
  have hP : va_P D vwCl [(h0, .inr (3, [.ref q0, .null, .int 0])), (q0, .inl (cI, 12, .inl (fun _ => 0)))] H := hP
  have hD : va_D A [(h0, .inr (3, [.ref q0, .null, .int 0])), (q0, .inl (cI, 12, .inl (fun _ => 0)))] := hD
  refine lv_aload_n hx hb dIX3_12 rfl (lv_at hl 0 rfl) ?_
  refine lv_sipush hx hb dIX3_13 (v := 4096) (by decide +kernel) ?_
  refine va_newa (atype := .int) (ty := .int) (N' := 4096) (a0 := (4096, .inl (fun _ => 0))) hx hb (hts _ tb_aI) rfl hK hP hD hS hA (fun _ => rfl) (by decide) (by decide) (Nat.le_of_ble_eq_true rfl) (Nat.le_of_ble_eq_true rfl) (Nat.le_of_ble_eq_true rfl) dIX3_16 (fun q1 cN H hK hP hD hS => ?_)
  have eN := K_int hK 0 1 rfl rfl
  subst eN
  have hK := hK.sub (tys' := [(cI, .int)]) [0] rfl
  have hP : va_P D vwCl [(h0, .inr (3, [.ref q0, .null, .int 0])), (q0, .inl (cI, 12, .inl (fun _ => 0))), (q1, .inl (cI, 4096, .inl (fun _ => 0)))] H := hP
  have hD : va_D A [(h0, .inr (3, [.ref q0, .null, .int 0])), (q0, .inl (cI, 12, .inl (fun _ => 0))), (q1, .inl (cI, 4096, .inl (fun _ => 0)))] := hD
  have hK : va_K D vwCl [(cI, .int)] s := hK
  refine va_putF (D := D) (ci := 3) (v := .ref q1) (ty := .array .int) (C := RX3) (T := TX3) (N := 3) hx hb hts (cls_ok 3 _ rfl).1 tyX3 tyX3_ok nmX3 hown hK hP hD hS 0 rfl rfl 1 (by decide) (hts _ tb_X3_15) (fun _ h9 => h9) rfl hin rfl (by decide +kernel) rfl rfl (Nat.le_of_ble_eq_true rfl) dIX3_18 (fun H locs hP hD hS => ?_)
  have hP : va_P D vwCl [(h0, .inr (3, [.ref q0, .ref q1, .int 0])), (q0, .inl (cI, 12, .inl (fun _ => 0))), (q1, .inl (cI, 4096, .inl (fun _ => 0)))] H := hP
  have hD : va_D A [(h0, .inr (3, [.ref q0, .ref q1, .int 0])), (q0, .inl (cI, 12, .inl (fun _ => 0))), (q1, .inl (cI, 4096, .inl (fun _ => 0)))] := hD
  exact W.vret hx hb hr (fun t ht hW => ⟨⟨(fun k => match k with | 0 => q0 | _ => q1, fun k => match k with | 0 => cI | 1 => cI | _ => cI), rfl, trivial, by rw [ht]; exact hP, va_K.moved hW.alike hK, hD⟩, hS.F ht⟩) hS.2.2 dIX3_21
theorem dIX6_0 : decode cX6_init 0 = .ok (.aload_n 0, 1) := by decide +kernel
theorem dIX6_1 : decode cX6_init 1 = .ok (.invokespecial 3, 3) := by decide +kernel
theorem dIX6_4 : decode cX6_init 4 = .ok (.aload_n 0, 1) := by decide +kernel
theorem dIX6_5 : decode cX6_init 5 = .ok (.bipush 36, 2) := by decide +kernel
theorem dIX6_7 : decode cX6_init 7 = .ok (.newarray .int, 2) := by decide +kernel
theorem dIX6_9 : decode cX6_init 9 = .ok (.putfield 9, 3) := by decide +kernel
theorem dIX6_12 : decode cX6_init 12 = .ok (.return_, 1) := by decide +kernel
theorem tb_X6_o : Cond.methodLink RX6 3 objectInit ∈ TB := by decide +kernel
theorem tb_X6_9 : Cond.fieldLink RX6 9 "Sumsetry$Transforms" "powers" "[I" ∈ TB := by decide +kernel
/-- what Sumsetry$Transforms() leaves: the arrays' places u.1, the classes of arrays u.2 (int, long, boolean) -/
def wl_X6 (h0 : Nat) (u : (Nat → Nat) × (Nat → ClassId)) : va_W := [(h0, .inr (4, [.int 0, .int 0, .ref (u.1 0)])), ((u.1 0), .inl ((u.2 0), 36, .inl (fun _ => 0)))]
set_option maxHeartbeats 4000000 in
set_option maxRecDepth 100000 in
theorem i_X6 (l : Launch) (D : va_G) (h0 sz : Nat) : Met l yX6_init (wC yX6_init cX6_init) ({ frames := 1, cells := 1, slots := 36, locals := 12 }) (va_Pc [.ref h0] (fun U => U.heap.size = sz ∧ va_P D vwCl [(h0, .inr (4, [.int 0, .int 0, .null]))] U.heap ∧ va_K D vwCl [] U ∧ va_D (fun _ => True) [(h0, .inr (4, [.int 0, .int 0, .null]))])) (va_Qv (fun _ : (Nat → Nat) × (Nat → ClassId) => True) (fun u U => va_P D vwCl (wl_X6 h0 u) U.heap ∧ va_K D vwCl [((u.2 0), .int)] U ∧ va_D (va_A [(h0, .inr (4, [.int 0, .int 0, .null]))] sz) (wl_X6 h0 u)) (va_A [(h0, .inr (4, [.int 0, .int 0, .null]))] sz)) 1 36 (va_A [(h0, .inr (4, [.int 0, .int 0, .null]))] sz) := by
  refine Met.ofW (cc := cX6_init) (maxL := 1) (ret := none) (by decide) rfl ?_
  intro p e s m args below meth c s₁ B hml hv
  obtain ⟨rfl, hsz, hP, hK, hD0⟩ := hv
  have hx := B.exec
  have hb := B.bytes
  have hr := B.returns
  have hts0 := atoms_spec (ws := wC yX6_init cX6_init) B.pre
  have hts : ∀ w ∈ TB, w.before _ s = true := fun w hw => hts0 w (List.mem_cons_of_mem _ hw)
  have hown : s.vm.findClass RX6 = some m.cls := findClass_of_methodNamed B.named
  have hin : meth.name = "<init>" := (name_of_methodNamed B.named B.method).1
  subst hsz
  have hD := hD0.self (sz := s.heap.size)
  generalize hAe : va_A [(h0, .inr (4, [.int 0, .int 0, .null]))] s.heap.size = A at hD ⊢
  have hA : ∀ q : Nat, s.heap.size ≤ q → A q := fun q h => by rw [← hAe]; exact Or.inr h
  have hS : va_S A s.heap s.heap [] := va_S.rf
  have hP : va_P D vwCl [(h0, .inr (4, [.int 0, .int 0, .null]))] s.heap := hP
  have hl := lv_entry ([.ref h0]) (n := 1) (Nat.le_of_ble_eq_true rfl)
  rw [lg_entry_eq]
  generalize (lg_sl ([.ref h0]) ++ List.replicate (1 - (lg_sl ([.ref h0])).length) Slot.unset).toArray = ls at hl ⊢
  have hl : lv_has ls 1 [(0, .ref h0)] := hl
  refine lv_aload_n hx hb dIX6_0 rfl (lv_at hl 0 rfl) ?_
  refine W.objInit hx hb hown (hts _ tb_X6_o) (hts _ tb_obj.1) (hts _ tb_obj.2) rfl (by rw [hml]; exact hl.1) rfl dIX6_1 (Nat.le_of_ble_eq_true rfl) (Nat.le_of_ble_eq_true rfl) ?_
  refine W.eq (g2 := F0 m 4 ls []) rfl ?_
  refine lv_aload_n hx hb dIX6_4 rfl (lv_at hl 0 rfl) ?_
  refine lv_bipush hx hb dIX6_5 (v := 36) (by decide +kernel) ?_
  refine va_newa (atype := .int) (ty := .int) (N' := 36) (a0 := (36, .inl (fun _ => 0))) hx hb (hts _ tb_aI) rfl hK hP hD hS hA (fun _ => rfl) (by decide) (by decide) (Nat.le_of_ble_eq_true rfl) (Nat.le_of_ble_eq_true rfl) (Nat.le_of_ble_eq_true rfl) dIX6_7 (fun q0 cI H hK hP hD hS => ?_)
  have hP : va_P D vwCl [(h0, .inr (4, [.int 0, .int 0, .null])), (q0, .inl (cI, 36, .inl (fun _ => 0)))] H := hP
  have hD : va_D A [(h0, .inr (4, [.int 0, .int 0, .null])), (q0, .inl (cI, 36, .inl (fun _ => 0)))] := hD
  have hK : va_K D vwCl [(cI, .int)] s := hK
  refine va_putF (D := D) (ci := 4) (v := .ref q0) (ty := .array .int) (C := RX6) (T := TX6) (N := 3) hx hb hts (cls_ok 4 _ rfl).1 tyX6 tyX6_ok nmX6 hown hK hP hD hS 0 rfl rfl 2 (by decide) (hts _ tb_X6_9) (fun _ h9 => h9) rfl hin rfl (by decide +kernel) rfl rfl (Nat.le_of_ble_eq_true rfl) dIX6_9 (fun H locs hP hD hS => ?_)
  have hP : va_P D vwCl [(h0, .inr (4, [.int 0, .int 0, .ref q0])), (q0, .inl (cI, 36, .inl (fun _ => 0)))] H := hP
  have hD : va_D A [(h0, .inr (4, [.int 0, .int 0, .ref q0])), (q0, .inl (cI, 36, .inl (fun _ => 0)))] := hD
  exact W.vret hx hb hr (fun t ht hW => ⟨⟨(fun _ => q0, fun k => match k with | 0 => cI | 1 => cI | _ => cI), rfl, trivial, by rw [ht]; exact hP, va_K.moved hW.alike hK, hD⟩, hS.F ht⟩) hS.2.2 dIX6_12
