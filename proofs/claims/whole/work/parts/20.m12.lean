/-! methods: X7_wipe, X7_zero, X7_constant, X7_root, X7_needRoot, X7_transform, X7_waysAnew, X7_of, X8_thrown, X8_isIn, X8_size, X8_whole, X8_isElement, X8_isSet, X8_has, X8_many -/
def t_X7_wipe : List (Nat × Instr × Nat) := [(0, .aload_n 0, 1), (1, .getfield 41, 3), (4, .getfield 207, 3), (7, .istore_n 1, 1), (8, .aload_n 0, 1), (9, .getfield 41, 3), (12, .invokevirtual 67, 3), (15, .iload_n 1, 1), (16, .ireturn, 1)]
theorem tk_X7_wipe : ∀ x ∈ t_X7_wipe, decode cX7_wipe x.1 = .ok x.2 := by decide +kernel
def C_X7_wipe : Cfg := (t_X7_wipe, csF, fl_X7, [(67, 2, 3, 1, 0, fn_X3_clear)], in_X7, lg_X7, [], [], none, (some .int), 0)
set_option maxRecDepth 100000 in
theorem b_X7_wipe_0 : (fun (M : Mem) => run C_X7_wipe 9 (0, [some (.ref 0), none], [], M, 0)) = (fun (M : Mem) => some (.inr (.inl (some (.int (M.1 14 2))), (d_X3_clear M), 0))) := by rfl
def d_X7_wipe (M : Mem) : Option (Res × Mem) := some (.inl (some (.int (M.1 14 2))), (d_X3_clear M))
set_option maxHeartbeats 2000000 in
theorem r_X7_wipe (M : Mem) : RG C_X7_wipe (0, [some (.ref 0), none], [], M, 0) (d_X7_wipe M) (fun r => .inr r) := by
  unfold d_X7_wipe
  exact RG.fin rfl (Rend.run 9 (congrFun b_X7_wipe_0 M))
def fn_X7_wipe : Fn := fun av M => match av with
  | [.ref r0] => bif Nat.beq r0 0 then (d_X7_wipe M) else (none)
  | _ => none
theorem cfg_X7_wipe : CfgOK RX7 cX7_wipe (C_X7_wipe) 2 := ⟨tk_X7_wipe, csF_nd, flk_X7, (List.forall_mem_cons.mpr ⟨Or.inr ⟨yX3_clear, cX3_clear, 1, none, none, 1, ok_X3_clear, by decide, by decide, w_code_Sumsetry_Row_clear___V, w_initialized_Sumsetry_Row, ⟨by decide, by decide⟩, Or.inr (Or.inr ⟨rfl, rfl, show (parseMethodDescriptor yX3_clear.desc).map (fun d => d.parameters.length + 1) = some 1 from by decide +kernel, w_methodLink_Sumsetry_67, w_instanceMethod_Sumsetry_Row_clear___V, w_selects_Sumsetry_Row_clear___V, ⟨_, rfl, rfl⟩⟩)⟩, fun _ h => absurd h List.not_mem_nil⟩), ink_X7, lgk_X7, fun e h => absurd h List.not_mem_nil, (fun h hh => absurd hh List.not_mem_nil)⟩
theorem ok_X7_wipe : OkM csF yX7_wipe (Cond.code yX7_wipe cX7_wipe 2 (some .int)) 2 0 fn_X7_wipe :=
  OkM_of (own := RX7) (C := C_X7_wipe) (by decide +kernel) rfl (cfg_X7_wipe) rfl rfl rfl rfl (by
    intro av M o M' h
    unfold fn_X7_wipe at h
    split at h
    · rename_i r0
      rcases bif_cs h with ⟨hb, h⟩ | ⟨-, h⟩
      · skip
        have hr0 := hb
        obtain rfl := Nat.eq_of_beq_eq_true hr0
        exact ⟨rfl, Nat.le_of_ble_eq_true rfl, (r_X7_wipe M) (o, M') h⟩
      · cases h
    · cases h)
def t_X7_zero : List (Nat × Instr × Nat) := [(0, .aload_n 0, 1), (1, .getfield 41, 3), (4, .aload_n 0, 1), (5, .getfield 10, 3), (8, .invokevirtual 215, 3), (11, .ireturn, 1)]
theorem tk_X7_zero : ∀ x ∈ t_X7_zero, decode cX7_zero x.1 = .ok x.2 := by decide +kernel
def C_X7_zero : Cfg := (t_X7_zero, csF, fl_X7, [(215, 2, 3, 2, 0, fn_X3_leastZeroPart)], in_X7, lg_X7, [], [], none, (some .int), 0)
set_option maxRecDepth 100000 in
theorem b_X7_zero_0 : (fun (M : Mem) => run C_X7_zero 4 (0, [some (.ref 0)], [], M, 0)) = (fun (M : Mem) => some (.inl (8, [some (.ref 0)], [.ref 2, .ref 14], M, 0))) := by rfl
set_option maxRecDepth 100000 in
theorem b_X7_zero_1 : (fun (w2 : Int32) (M1 : Mem) => run C_X7_zero 1 (11, [some (.ref 0)], [.int w2], M1, 0)) = (fun (w2 : Int32) (M1 : Mem) => some (.inr (.inl (some (.int w2)), M1, 0))) := by rfl
def d_X7_zero (M : Mem) : Option (Res × Mem) := (onI (d_X3_leastZeroPart M) (fun w2 M1 => some (.inl (some (.int w2)), M1)) (fun r => some r))
set_option maxHeartbeats 2000000 in
theorem r_X7_zero (M : Mem) : RG C_X7_zero (0, [some (.ref 0)], [], M, 0) (d_X7_zero M) (fun r => .inr r) := by
  unfold d_X7_zero
  refine RG.st 4 (congrFun b_X7_zero_0 M) ?_
  refine RG.callI (fun w2 M1 h1 => RG.st 1 (run_callV (v := (some (.int w2))) rfl rfl rfl rfl rfl h1) ?_) (fun E M1 h1 => RG.fin rfl (Rend.run 1 (run_callVx rfl rfl rfl rfl rfl h1 rfl)))
  show RG C_X7_zero (11, [some (.ref 0)], [.int w2], M1, 0) _ _
  exact RG.fin rfl (Rend.run 1 (congrFun (congrFun b_X7_zero_1 w2) M1))
def fn_X7_zero : Fn := fun av M => match av with
  | [.ref r0] => bif Nat.beq r0 0 then (d_X7_zero M) else (none)
  | _ => none
theorem cfg_X7_zero : CfgOK RX7 cX7_zero (C_X7_zero) 4 := ⟨tk_X7_zero, csF_nd, flk_X7, (List.forall_mem_cons.mpr ⟨Or.inr ⟨yX3_leastZeroPart, cX3_leastZeroPart, 7, (some .int), none, 3, ok_X3_leastZeroPart, by decide, by decide, w_code_Sumsetry_Row_leastZeroPart__LSumsetry_Group__I, w_initialized_Sumsetry_Row, ⟨by decide, by decide⟩, Or.inr (Or.inr ⟨rfl, rfl, show (parseMethodDescriptor yX3_leastZeroPart.desc).map (fun d => d.parameters.length + 1) = some 2 from by decide +kernel, w_methodLink_Sumsetry_215, w_instanceMethod_Sumsetry_Row_leastZeroPart__LSumsetry_Group__I, w_selects_Sumsetry_Row_leastZeroPart__LSumsetry_Group__I, ⟨_, rfl, rfl⟩⟩)⟩, fun _ h => absurd h List.not_mem_nil⟩), ink_X7, lgk_X7, fun e h => absurd h List.not_mem_nil, (fun h hh => absurd hh List.not_mem_nil)⟩
theorem ok_X7_zero : OkM csF yX7_zero (Cond.code yX7_zero cX7_zero 1 (some .int)) 4 0 fn_X7_zero :=
  OkM_of (own := RX7) (C := C_X7_zero) (by decide +kernel) rfl (cfg_X7_zero) rfl rfl rfl rfl (by
    intro av M o M' h
    unfold fn_X7_zero at h
    split at h
    · rename_i r0
      rcases bif_cs h with ⟨hb, h⟩ | ⟨-, h⟩
      · skip
        have hr0 := hb
        obtain rfl := Nat.eq_of_beq_eq_true hr0
        exact ⟨rfl, Nat.le_of_ble_eq_true rfl, (r_X7_zero M) (o, M') h⟩
      · cases h
    · cases h)
def t_X7_constant : List (Nat × Instr × Nat) := [(0, .aload_n 0, 1), (1, .getfield 10, 3), (4, .getfield 73, 3), (7, .bipush 10, 2), (9, .if_icmp .le 13, 3), (12, .new 198, 3), (15, .dup, 1), (16, .ldc 200, 2), (18, .invokespecial 202, 3), (21, .athrow, 1), (22, .aload_n 0, 1), (23, .getfield 10, 3), (26, .invokevirtual 219, 3), (29, .ireturn, 1)]
theorem tk_X7_constant : ∀ x ∈ t_X7_constant, decode cX7_constant x.1 = .ok x.2 := by decide +kernel
def C_X7_constant : Cfg := (t_X7_constant, csF, fl_X7, [(219, 2, 1, 1, 0, fn_X1_zeroConstant)], in_X7, lg_X7, [(12, "java/lang/IllegalStateException", 198, 200, 202, "the group is too great")], [], none, (some .int), 1)
set_option maxRecDepth 100000 in
theorem b_X7_constant_0 : (fun (M : Mem) => run C_X7_constant 5 (0, [some (.ref 0)], [], M, 0)) = (fun (M : Mem) => some (.inl ((br (decide ((M.1 2 2) ≤ (10 : Int32))) 9 3 (13)), [some (.ref 0)], [], M, 0))) := by rfl
set_option maxRecDepth 100000 in
theorem b_X7_constant_1 : (fun (M : Mem) => run C_X7_constant 2 (22, [some (.ref 0)], [], M, 0)) = (fun (M : Mem) => some (.inl (26, [some (.ref 0)], [.ref 2], M, 0))) := by rfl
set_option maxRecDepth 100000 in
theorem b_X7_constant_2 : (fun (M : Mem) (w1 : Int32) => run C_X7_constant 1 (29, [some (.ref 0)], [.int w1], M, 0)) = (fun (M : Mem) (w1 : Int32) => some (.inr (.inl (some (.int w1)), M, 0))) := by rfl
set_option maxRecDepth 100000 in
theorem b_X7_constant_3 : (fun (M : Mem) => run C_X7_constant 1 (12, [some (.ref 0)], [], M, 0)) = (fun (M : Mem) => some (.inr (.inr "java/lang/IllegalStateException", M, 1))) := by rfl
def d_X7_constant (M : Mem) : Option (Res × Mem) := (if (M.1 2 2) ≤ (10 : Int32) then ((d_X1_zeroConstant M).bind fun w1 => some (.inl (some (.int w1)), M)) else some (.inr "java/lang/IllegalStateException", M))
set_option maxHeartbeats 2000000 in
theorem r_X7_constant (M : Mem) : RG C_X7_constant (0, [some (.ref 0)], [], M, 0) (d_X7_constant M) (fun r => .inr r) := by
  unfold d_X7_constant
  refine RG.st 5 (congrFun b_X7_constant_0 M) ?_
  refine RG.ite (fun h1 => RG.brT (q := 22) h1 rfl ?_) (fun h1 => RG.brF (q := 12) h1 rfl ?_)
  · refine RG.st 2 (congrFun b_X7_constant_1 M) ?_
    refine RG.bind (fun w1 h2 => RG.st 1 (run_callV (v := some (.int w1)) rfl rfl rfl rfl rfl (bindI h2)) ?_)
    show RG C_X7_constant (29, [some (.ref 0)], [.int w1], M, 0) _ _
    exact RG.fin rfl (Rend.run 1 (congrFun (congrFun b_X7_constant_2 M) w1))
  · exact RG.fin rfl (Rend.run 1 (congrFun b_X7_constant_3 M))
def fn_X7_constant : Fn := fun av M => match av with
  | [.ref r0] => bif Nat.beq r0 0 then (d_X7_constant M) else (none)
  | _ => none
theorem cfg_X7_constant : CfgOK RX7 cX7_constant (C_X7_constant) 6 := ⟨tk_X7_constant, csF_nd, flk_X7, (List.forall_mem_cons.mpr ⟨Or.inr ⟨yX1_zeroConstant, cX1_zeroConstant, 3, (some .int), none, 2, ok_X1_zeroConstant, by decide, by decide, w_code_Sumsetry_Group_zeroConstant___I, w_initialized_Sumsetry_Group, ⟨by decide, by decide⟩, Or.inr (Or.inr ⟨rfl, rfl, show (parseMethodDescriptor yX1_zeroConstant.desc).map (fun d => d.parameters.length + 1) = some 1 from by decide +kernel, w_methodLink_Sumsetry_219, w_instanceMethod_Sumsetry_Group_zeroConstant___I, w_selects_Sumsetry_Group_zeroConstant___I, ⟨_, rfl, rfl⟩⟩)⟩, fun _ h => absurd h List.not_mem_nil⟩), ink_X7, lgk_X7, by decide +kernel, (fun h hh => absurd hh List.not_mem_nil)⟩
theorem ok_X7_constant : OkM csF yX7_constant (Cond.code yX7_constant cX7_constant 1 (some .int)) 6 1 fn_X7_constant :=
  OkM_of (own := RX7) (C := C_X7_constant) (by decide +kernel) rfl (cfg_X7_constant) rfl rfl rfl rfl (by
    intro av M o M' h
    unfold fn_X7_constant at h
    split at h
    · rename_i r0
      rcases bif_cs h with ⟨hb, h⟩ | ⟨-, h⟩
      · skip
        have hr0 := hb
        obtain rfl := Nat.eq_of_beq_eq_true hr0
        exact ⟨rfl, Nat.le_of_ble_eq_true rfl, (r_X7_constant M) (o, M') h⟩
      · cases h
    · cases h)
def t_X7_root : List (Nat × Instr × Nat) := [(0, .iconst 2, 1), (1, .iload_n 1, 1), (2, .sipush 9999, 3), (5, .invokestatic 52, 3), (8, .ifCond .eq 36, 3), (11, .iconst 1, 1), (12, .iload_n 2, 1), (13, .iload_n 1, 1), (14, .iconst 1, 1), (15, .isub, 1), (16, .invokestatic 52, 3), (19, .ifCond .eq 25, 3), (22, .iload_n 1, 1), (23, .invokestatic 223, 3), (26, .ifCond .eq 18, 3), (29, .iload_n 1, 1), (30, .iload_n 2, 1), (31, .aload_n 0, 1), (32, .getfield 10, 3), (35, .getfield 227, 3), (38, .invokestatic 230, 3), (41, .ifCond .ne 13, 3), (44, .new 56, 3), (47, .dup, 1), (48, .ldc 233, 2), (50, .invokespecial 60, 3), (53, .athrow, 1), (54, .aload_n 0, 1), (55, .getfield 10, 3), (58, .getfield 235, 3), (61, .iconst 1, 1), (62, .if_icmp .eq 13, 3), (65, .new 198, 3), (68, .dup, 1), (69, .ldc 238, 2), (71, .invokespecial 202, 3), (74, .athrow, 1), (75, .aload_n 0, 1), (76, .getfield 48, 3), (79, .iload_n 1, 1), (80, .iload_n 2, 1), (81, .aload_n 0, 1), (82, .getfield 10, 3), (85, .getfield 227, 3), (88, .invokevirtual 240, 3), (91, .return_, 1)]
theorem tk_X7_root : ∀ x ∈ t_X7_root, decode cX7_root x.1 = .ok x.2 := by decide +kernel
def C_X7_root : Cfg := (t_X7_root, csF, fl_X7, [(52, 0, 5, 3, 0, fn_X7_isFrom), (223, 0, 4, 1, 0, fn_X6_isPrime), (230, 0, 4, 3, 0, fn_X6_isRoot), (240, 2, 4, 4, 0, fn_X6_begin)], in_X7, lg_X7, [(44, "java/lang/IllegalArgumentException", 56, 233, 60, "no prime, or no root of it"), (65, "java/lang/IllegalStateException", 198, 238, 202, "m is not 1")], [], none, none, 1)
set_option maxRecDepth 100000 in
theorem b_X7_root_0 : (fun (v1 : Int32) (v2 : Int32) (M : Mem) => run C_X7_root 5 (0, [some (.ref 0), some (.int v1), some (.int v2)], [], M, 0)) = (fun (v1 : Int32) (v2 : Int32) (M : Mem) => some (.inl ((br (decide ((d_X7_isFrom (2 : Int32) v1 (9999 : Int32)) = 0)) 8 3 (36)), [some (.ref 0), some (.int v1), some (.int v2)], [], M, 0))) := by rfl
set_option maxRecDepth 100000 in
theorem b_X7_root_1 : (fun (v1 : Int32) (v2 : Int32) (M : Mem) => run C_X7_root 1 (44, [some (.ref 0), some (.int v1), some (.int v2)], [], M, 0)) = (fun (v1 : Int32) (v2 : Int32) (M : Mem) => some (.inr (.inr "java/lang/IllegalArgumentException", M, 1))) := by rfl
set_option maxRecDepth 100000 in
theorem b_X7_root_2 : (fun (v1 : Int32) (v2 : Int32) (M : Mem) => run C_X7_root 7 (11, [some (.ref 0), some (.int v1), some (.int v2)], [], M, 0)) = (fun (v1 : Int32) (v2 : Int32) (M : Mem) => some (.inl ((br (decide ((d_X7_isFrom (1 : Int32) v2 (v1 - (1 : Int32))) = 0)) 19 3 (25)), [some (.ref 0), some (.int v1), some (.int v2)], [], M, 0))) := by rfl
set_option maxRecDepth 100000 in
theorem b_X7_root_3 : (fun (v1 : Int32) (v2 : Int32) (M : Mem) => run C_X7_root 1 (44, [some (.ref 0), some (.int v1), some (.int v2)], [], M, 0)) = (fun (v1 : Int32) (v2 : Int32) (M : Mem) => some (.inr (.inr "java/lang/IllegalArgumentException", M, 1))) := by rfl
set_option maxRecDepth 100000 in
theorem b_X7_root_4 : (fun (v1 : Int32) (v2 : Int32) (M : Mem) => run C_X7_root 1 (22, [some (.ref 0), some (.int v1), some (.int v2)], [], M, 0)) = (fun (v1 : Int32) (v2 : Int32) (M : Mem) => some (.inl (23, [some (.ref 0), some (.int v1), some (.int v2)], [.int v1], M, 0))) := by rfl
set_option maxRecDepth 100000 in
theorem b_X7_root_5 : (fun (v1 : Int32) (v2 : Int32) (M : Mem) (w1 : Int32) => run C_X7_root 1 (26, [some (.ref 0), some (.int v1), some (.int v2)], [.int w1], M, 0)) = (fun (v1 : Int32) (v2 : Int32) (M : Mem) (w1 : Int32) => some (.inl ((br (decide (w1 = 0)) 26 3 (18)), [some (.ref 0), some (.int v1), some (.int v2)], [], M, 0))) := by rfl
set_option maxRecDepth 100000 in
theorem b_X7_root_6 : (fun (v1 : Int32) (v2 : Int32) (M : Mem) => run C_X7_root 1 (44, [some (.ref 0), some (.int v1), some (.int v2)], [], M, 0)) = (fun (v1 : Int32) (v2 : Int32) (M : Mem) => some (.inr (.inr "java/lang/IllegalArgumentException", M, 1))) := by rfl
set_option maxRecDepth 100000 in
theorem b_X7_root_7 : (fun (v1 : Int32) (v2 : Int32) (M : Mem) => run C_X7_root 5 (29, [some (.ref 0), some (.int v1), some (.int v2)], [], M, 0)) = (fun (v1 : Int32) (v2 : Int32) (M : Mem) => some (.inl (38, [some (.ref 0), some (.int v1), some (.int v2)], [.int (M.1 2 1), .int v2, .int v1], M, 0))) := by rfl
set_option maxRecDepth 100000 in
theorem b_X7_root_8 : (fun (v1 : Int32) (v2 : Int32) (M : Mem) (w2 : Int32) => run C_X7_root 1 (41, [some (.ref 0), some (.int v1), some (.int v2)], [.int w2], M, 0)) = (fun (v1 : Int32) (v2 : Int32) (M : Mem) (w2 : Int32) => some (.inl ((br (!decide (w2 = 0)) 41 3 (13)), [some (.ref 0), some (.int v1), some (.int v2)], [], M, 0))) := by rfl
set_option maxRecDepth 100000 in
theorem b_X7_root_9 : (fun (v1 : Int32) (v2 : Int32) (M : Mem) => run C_X7_root 1 (44, [some (.ref 0), some (.int v1), some (.int v2)], [], M, 0)) = (fun (v1 : Int32) (v2 : Int32) (M : Mem) => some (.inr (.inr "java/lang/IllegalArgumentException", M, 1))) := by rfl
set_option maxRecDepth 100000 in
theorem b_X7_root_10 : (fun (v1 : Int32) (v2 : Int32) (M : Mem) => run C_X7_root 5 (54, [some (.ref 0), some (.int v1), some (.int v2)], [], M, 0)) = (fun (v1 : Int32) (v2 : Int32) (M : Mem) => some (.inl ((br (decide ((M.1 2 0) = (1 : Int32))) 62 3 (13)), [some (.ref 0), some (.int v1), some (.int v2)], [], M, 0))) := by rfl
set_option maxRecDepth 100000 in
theorem b_X7_root_11 : (fun (v1 : Int32) (v2 : Int32) (M : Mem) => run C_X7_root 7 (75, [some (.ref 0), some (.int v1), some (.int v2)], [], M, 0)) = (fun (v1 : Int32) (v2 : Int32) (M : Mem) => some (.inl (88, [some (.ref 0), some (.int v1), some (.int v2)], [.int (M.1 2 1), .int v2, .int v1, .ref 17], M, 0))) := by rfl
set_option maxRecDepth 100000 in
theorem b_X7_root_12 : (fun (v1 : Int32) (v2 : Int32) (M3 : Mem) => run C_X7_root 1 (91, [some (.ref 0), some (.int v1), some (.int v2)], [], M3, 0)) = (fun (v1 : Int32) (v2 : Int32) (M3 : Mem) => some (.inr (.inl none, M3, 0))) := by rfl
set_option maxRecDepth 100000 in
theorem b_X7_root_13 : (fun (v1 : Int32) (v2 : Int32) (M : Mem) => run C_X7_root 1 (65, [some (.ref 0), some (.int v1), some (.int v2)], [], M, 0)) = (fun (v1 : Int32) (v2 : Int32) (M : Mem) => some (.inr (.inr "java/lang/IllegalStateException", M, 1))) := by rfl
def d_X7_root (v1 : Int32) (v2 : Int32) (M : Mem) : Option (Res × Mem) := (if (d_X7_isFrom (2 : Int32) v1 (9999 : Int32)) = 0 then some (.inr "java/lang/IllegalArgumentException", M) else (if (d_X7_isFrom (1 : Int32) v2 (v1 - (1 : Int32))) = 0 then some (.inr "java/lang/IllegalArgumentException", M) else ((d_X6_isPrime v1).bind fun w1 => (if w1 = 0 then some (.inr "java/lang/IllegalArgumentException", M) else ((d_X6_isRoot v1 v2 (M.1 2 1)).bind fun w2 => (if w2 = 0 then some (.inr "java/lang/IllegalArgumentException", M) else (if (M.1 2 0) = (1 : Int32) then (onV (d_X6_begin v1 v2 (M.1 2 1) M) (fun M3 => some (.inl none, M3)) (fun r => some r)) else some (.inr "java/lang/IllegalStateException", M))))))))
set_option maxHeartbeats 2000000 in
theorem r_X7_root (v1 : Int32) (v2 : Int32) (M : Mem) : RG C_X7_root (0, [some (.ref 0), some (.int v1), some (.int v2)], [], M, 0) (d_X7_root v1 v2 M) (fun r => .inr r) := by
  unfold d_X7_root
  refine RG.st 5 (congrFun (congrFun (congrFun b_X7_root_0 v1) v2) M) ?_
  refine RG.ite (fun h1 => RG.brT (q := 44) h1 rfl ?_) (fun h1 => RG.brF (q := 11) h1 rfl ?_)
  · exact RG.fin rfl (Rend.run 1 (congrFun (congrFun (congrFun b_X7_root_1 v1) v2) M))
  · refine RG.st 7 (congrFun (congrFun (congrFun b_X7_root_2 v1) v2) M) ?_
    refine RG.ite (fun h2 => RG.brT (q := 44) h2 rfl ?_) (fun h2 => RG.brF (q := 22) h2 rfl ?_)
    · exact RG.fin rfl (Rend.run 1 (congrFun (congrFun (congrFun b_X7_root_3 v1) v2) M))
    · refine RG.st 1 (congrFun (congrFun (congrFun b_X7_root_4 v1) v2) M) ?_
      refine RG.bind (fun w1 h3 => RG.st 1 (run_callS (v := some (.int w1)) rfl rfl rfl rfl (bindI h3)) ?_)
      show RG C_X7_root (26, [some (.ref 0), some (.int v1), some (.int v2)], [.int w1], M, 0) _ _
      refine RG.st 1 (congrFun (congrFun (congrFun (congrFun b_X7_root_5 v1) v2) M) w1) ?_
      refine RG.ite (fun h4 => RG.brT (q := 44) h4 rfl ?_) (fun h4 => RG.brF (q := 29) h4 rfl ?_)
      · exact RG.fin rfl (Rend.run 1 (congrFun (congrFun (congrFun b_X7_root_6 v1) v2) M))
      · refine RG.st 5 (congrFun (congrFun (congrFun b_X7_root_7 v1) v2) M) ?_
        refine RG.bind (fun w2 h5 => RG.st 1 (run_callS (v := some (.int w2)) rfl rfl rfl rfl (bindI h5)) ?_)
        show RG C_X7_root (41, [some (.ref 0), some (.int v1), some (.int v2)], [.int w2], M, 0) _ _
        refine RG.st 1 (congrFun (congrFun (congrFun (congrFun b_X7_root_8 v1) v2) M) w2) ?_
        refine RG.ite (fun h6 => RG.brNF (q := 44) h6 rfl ?_) (fun h6 => RG.brNT (q := 54) h6 rfl ?_)
        · exact RG.fin rfl (Rend.run 1 (congrFun (congrFun (congrFun b_X7_root_9 v1) v2) M))
        · refine RG.st 5 (congrFun (congrFun (congrFun b_X7_root_10 v1) v2) M) ?_
          refine RG.ite (fun h7 => RG.brT (q := 75) h7 rfl ?_) (fun h7 => RG.brF (q := 65) h7 rfl ?_)
          · refine RG.st 7 (congrFun (congrFun (congrFun b_X7_root_11 v1) v2) M) ?_
            refine RG.callV (fun M3 h8 => RG.st 1 (run_callV (v := none) rfl rfl rfl rfl rfl h8) ?_) (fun E M3 h8 => RG.fin rfl (Rend.run 1 (run_callVx rfl rfl rfl rfl rfl h8 rfl)))
            show RG C_X7_root (91, [some (.ref 0), some (.int v1), some (.int v2)], [], M3, 0) _ _
            exact RG.fin rfl (Rend.run 1 (congrFun (congrFun (congrFun b_X7_root_12 v1) v2) M3))
          · exact RG.fin rfl (Rend.run 1 (congrFun (congrFun (congrFun b_X7_root_13 v1) v2) M))
def fn_X7_root : Fn := fun av M => match av with
  | [.ref r0, .int v1, .int v2] => bif Nat.beq r0 0 then (d_X7_root v1 v2 M) else (none)
  | _ => none
theorem cfg_X7_root : CfgOK RX7 cX7_root (C_X7_root) 6 := ⟨tk_X7_root, csF_nd, flk_X7, (List.forall_mem_cons.mpr ⟨Or.inr ⟨yX7_isFrom, cX7_isFrom, 3, (some .boolean), none, 1, ok_X7_isFrom, by decide, by decide, w_code_Sumsetry_isFrom__III_Z, w_initialized_Sumsetry, ⟨by decide, by decide⟩, Or.inl ⟨rfl, show (parseMethodDescriptor yX7_isFrom.desc).map (fun d => d.parameters.length) = some 3 from by decide +kernel, w_methodLink_Sumsetry_52, w_static_Sumsetry_isFrom__III_Z⟩⟩,
    List.forall_mem_cons.mpr ⟨Or.inr ⟨yX6_isPrime, cX6_isPrime, 2, (some .boolean), none, 2, ok_X6_isPrime, by decide, by decide, w_code_Sumsetry_Transforms_isPrime__I_Z, w_initialized_Sumsetry_Transforms, ⟨by decide, by decide⟩, Or.inl ⟨rfl, show (parseMethodDescriptor yX6_isPrime.desc).map (fun d => d.parameters.length) = some 1 from by decide +kernel, w_methodLink_Sumsetry_223, w_static_Sumsetry_Transforms_isPrime__I_Z⟩⟩,
    List.forall_mem_cons.mpr ⟨Or.inr ⟨yX6_isRoot, cX6_isRoot, 5, (some .boolean), none, 2, ok_X6_isRoot, by decide, by decide, w_code_Sumsetry_Transforms_isRoot__III_Z, w_initialized_Sumsetry_Transforms, ⟨by decide, by decide⟩, Or.inl ⟨rfl, show (parseMethodDescriptor yX6_isRoot.desc).map (fun d => d.parameters.length) = some 3 from by decide +kernel, w_methodLink_Sumsetry_230, w_static_Sumsetry_Transforms_isRoot__III_Z⟩⟩,
    List.forall_mem_cons.mpr ⟨Or.inr ⟨yX6_begin, cX6_begin, 6, none, none, 2, ok_X6_begin, by decide, by decide, w_code_Sumsetry_Transforms_begin__III_V, w_initialized_Sumsetry_Transforms, ⟨by decide, by decide⟩, Or.inr (Or.inr ⟨rfl, rfl, show (parseMethodDescriptor yX6_begin.desc).map (fun d => d.parameters.length + 1) = some 4 from by decide +kernel, w_methodLink_Sumsetry_240, w_instanceMethod_Sumsetry_Transforms_begin__III_V, w_selects_Sumsetry_Transforms_begin__III_V, ⟨_, rfl, rfl⟩⟩)⟩, fun _ h => absurd h List.not_mem_nil⟩⟩⟩⟩), ink_X7, lgk_X7, by decide +kernel, (fun h hh => absurd hh List.not_mem_nil)⟩
theorem ok_X7_root : OkM csF yX7_root (Cond.code yX7_root cX7_root 3 none) 6 1 fn_X7_root :=
  OkM_of (own := RX7) (C := C_X7_root) (by decide +kernel) rfl (cfg_X7_root) rfl rfl rfl rfl (by
    intro av M o M' h
    unfold fn_X7_root at h
    split at h
    · rename_i r0 v1 v2
      rcases bif_cs h with ⟨hb, h⟩ | ⟨-, h⟩
      · skip
        have hr0 := hb
        obtain rfl := Nat.eq_of_beq_eq_true hr0
        exact ⟨rfl, Nat.le_of_ble_eq_true rfl, (r_X7_root v1 v2 M) (o, M') h⟩
      · cases h
    · cases h)
def t_X7_needRoot : List (Nat × Instr × Nat) := [(0, .aload_n 0, 1), (1, .getfield 48, 3), (4, .getfield 251, 3), (7, .ifCond .ne 14, 3), (10, .new 198, 3), (13, .dup, 1), (14, .ldc_w 271, 3), (17, .invokespecial 202, 3), (20, .athrow, 1), (21, .return_, 1)]
theorem tk_X7_needRoot : ∀ x ∈ t_X7_needRoot, decode cX7_needRoot x.1 = .ok x.2 := by decide +kernel
def C_X7_needRoot : Cfg := (t_X7_needRoot, csF, fl_X7, [], in_X7, lg_X7, [(10, "java/lang/IllegalStateException", 198, 271, 202, "no root was told")], [], none, none, 1)
set_option maxRecDepth 100000 in
theorem b_X7_needRoot_0 : (fun (M : Mem) => run C_X7_needRoot 4 (0, [some (.ref 0)], [], M, 0)) = (fun (M : Mem) => some (.inl ((br (!decide ((M.1 17 0) = 0)) 7 3 (14)), [some (.ref 0)], [], M, 0))) := by rfl
set_option maxRecDepth 100000 in
theorem b_X7_needRoot_1 : (fun (M : Mem) => run C_X7_needRoot 1 (10, [some (.ref 0)], [], M, 0)) = (fun (M : Mem) => some (.inr (.inr "java/lang/IllegalStateException", M, 1))) := by rfl
set_option maxRecDepth 100000 in
theorem b_X7_needRoot_2 : (fun (M : Mem) => run C_X7_needRoot 1 (21, [some (.ref 0)], [], M, 0)) = (fun (M : Mem) => some (.inr (.inl none, M, 0))) := by rfl
def d_X7_needRoot (M : Mem) : Option (Res × Mem) := (if (M.1 17 0) = 0 then some (.inr "java/lang/IllegalStateException", M) else some (.inl none, M))
set_option maxHeartbeats 2000000 in
theorem r_X7_needRoot (M : Mem) : RG C_X7_needRoot (0, [some (.ref 0)], [], M, 0) (d_X7_needRoot M) (fun r => .inr r) := by
  unfold d_X7_needRoot
  refine RG.st 4 (congrFun b_X7_needRoot_0 M) ?_
  refine RG.ite (fun h1 => RG.brNF (q := 10) h1 rfl ?_) (fun h1 => RG.brNT (q := 21) h1 rfl ?_)
  · exact RG.fin rfl (Rend.run 1 (congrFun b_X7_needRoot_1 M))
  · exact RG.fin rfl (Rend.run 1 (congrFun b_X7_needRoot_2 M))
def fn_X7_needRoot : Fn := fun av M => match av with
  | [.ref r0] => bif Nat.beq r0 0 then (d_X7_needRoot M) else (none)
  | _ => none
theorem cfg_X7_needRoot : CfgOK RX7 cX7_needRoot (C_X7_needRoot) 6 := ⟨tk_X7_needRoot, csF_nd, flk_X7, (fun e h => absurd h List.not_mem_nil), ink_X7, lgk_X7, by decide +kernel, (fun h hh => absurd hh List.not_mem_nil)⟩
theorem ok_X7_needRoot : OkM csF yX7_needRoot (Cond.code yX7_needRoot cX7_needRoot 1 none) 6 1 fn_X7_needRoot :=
  OkM_of (own := RX7) (C := C_X7_needRoot) (by decide +kernel) rfl (cfg_X7_needRoot) rfl rfl rfl rfl (by
    intro av M o M' h
    unfold fn_X7_needRoot at h
    split at h
    · rename_i r0
      rcases bif_cs h with ⟨hb, h⟩ | ⟨-, h⟩
      · skip
        have hr0 := hb
        obtain rfl := Nat.eq_of_beq_eq_true hr0
        exact ⟨rfl, Nat.le_of_ble_eq_true rfl, (r_X7_needRoot M) (o, M') h⟩
      · cases h
    · cases h)
def t_X7_transform : List (Nat × Instr × Nat) := [(0, .aload_n 0, 1), (1, .iload_n 1, 1), (2, .invokevirtual 98, 3), (5, .iconst 0, 1), (6, .iload_n 2, 1), (7, .aload_n 0, 1), (8, .getfield 10, 3), (11, .getfield 227, 3), (14, .iconst 1, 1), (15, .isub, 1), (16, .invokestatic 52, 3), (19, .ifCond .ne 13, 3), (22, .new 56, 3), (25, .dup, 1), (26, .ldc 242, 2), (28, .invokespecial 60, 3), (31, .athrow, 1), (32, .aload_n 0, 1), (33, .invokevirtual 244, 3), (36, .aload_n 0, 1), (37, .getfield 48, 3), (40, .iload_n 2, 1), (41, .aload_n 0, 1), (42, .iload_n 1, 1), (43, .invokevirtual 103, 3), (46, .invokevirtual 247, 3), (49, .ireturn, 1)]
theorem tk_X7_transform : ∀ x ∈ t_X7_transform, decode cX7_transform x.1 = .ok x.2 := by decide +kernel
def C_X7_transform : Cfg := (t_X7_transform, csF, fl_X7, [(52, 0, 5, 3, 0, fn_X7_isFrom), (98, 2, 5, 2, 1, fn_X7_needSet), (103, 2, 5, 2, 0, fn_X7_bitsOf), (244, 2, 5, 1, 1, fn_X7_needRoot), (247, 2, 4, 3, 0, fn_X6_valueAt)], in_X7, lg_X7, [(22, "java/lang/IllegalArgumentException", 56, 242, 60, "k out of range")], [], none, (some .int), 2)
set_option maxRecDepth 100000 in
theorem b_X7_transform_0 : (fun (v1 : Int32) (v2 : Int32) (M : Mem) => run C_X7_transform 2 (0, [some (.ref 0), some (.int v1), some (.int v2)], [], M, 0)) = (fun (v1 : Int32) (v2 : Int32) (M : Mem) => some (.inl (2, [some (.ref 0), some (.int v1), some (.int v2)], [.int v1, .ref 0], M, 0))) := by rfl
set_option maxRecDepth 100000 in
theorem b_X7_transform_1 : (fun (v1 : Int32) (v2 : Int32) (M1 : Mem) => run C_X7_transform 9 (5, [some (.ref 0), some (.int v1), some (.int v2)], [], M1, 1)) = (fun (v1 : Int32) (v2 : Int32) (M1 : Mem) => some (.inl ((br (!decide ((d_X7_isFrom (0 : Int32) v2 ((M1.1 2 1) - (1 : Int32))) = 0)) 19 3 (13)), [some (.ref 0), some (.int v1), some (.int v2)], [], M1, 1))) := by rfl
set_option maxRecDepth 100000 in
theorem b_X7_transform_2 : (fun (v1 : Int32) (v2 : Int32) (M1 : Mem) => run C_X7_transform 1 (22, [some (.ref 0), some (.int v1), some (.int v2)], [], M1, 1)) = (fun (v1 : Int32) (v2 : Int32) (M1 : Mem) => some (.inr (.inr "java/lang/IllegalArgumentException", M1, 2))) := by rfl
set_option maxRecDepth 100000 in
theorem b_X7_transform_3 : (fun (v1 : Int32) (v2 : Int32) (M1 : Mem) => run C_X7_transform 1 (32, [some (.ref 0), some (.int v1), some (.int v2)], [], M1, 1)) = (fun (v1 : Int32) (v2 : Int32) (M1 : Mem) => some (.inl (33, [some (.ref 0), some (.int v1), some (.int v2)], [.ref 0], M1, 1))) := by rfl
set_option maxRecDepth 100000 in
theorem b_X7_transform_4 : (fun (v1 : Int32) (v2 : Int32) (M2 : Mem) => run C_X7_transform 6 (36, [some (.ref 0), some (.int v1), some (.int v2)], [], M2, 2)) = (fun (v1 : Int32) (v2 : Int32) (M2 : Mem) => some (.inl (46, [some (.ref 0), some (.int v1), some (.int v2)], [.long (d_X7_bitsOf v1 M2), .int v2, .ref 17], M2, 2))) := by rfl
set_option maxRecDepth 100000 in
theorem b_X7_transform_5 : (fun (v1 : Int32) (v2 : Int32) (M2 : Mem) (w3 : Int32) => run C_X7_transform 1 (49, [some (.ref 0), some (.int v1), some (.int v2)], [.int w3], M2, 2)) = (fun (v1 : Int32) (v2 : Int32) (M2 : Mem) (w3 : Int32) => some (.inr (.inl (some (.int w3)), M2, 2))) := by rfl
def d_X7_transform (v1 : Int32) (v2 : Int32) (M : Mem) : Option (Res × Mem) := (onV (d_X7_needSet v1 M) (fun M1 => (if (d_X7_isFrom (0 : Int32) v2 ((M1.1 2 1) - (1 : Int32))) = 0 then some (.inr "java/lang/IllegalArgumentException", M1) else (onV (d_X7_needRoot M1) (fun M2 => ((d_X6_valueAt v2 (d_X7_bitsOf v1 M2) M2).bind fun w3 => some (.inl (some (.int w3)), M2))) (fun r => some r)))) (fun r => some r))
set_option maxHeartbeats 2000000 in
theorem r_X7_transform (v1 : Int32) (v2 : Int32) (M : Mem) : RG C_X7_transform (0, [some (.ref 0), some (.int v1), some (.int v2)], [], M, 0) (d_X7_transform v1 v2 M) (fun r => .inr r) := by
  unfold d_X7_transform
  refine RG.st 2 (congrFun (congrFun (congrFun b_X7_transform_0 v1) v2) M) ?_
  refine RG.callV (fun M1 h1 => RG.st 1 (run_callV (v := none) rfl rfl rfl rfl rfl h1) ?_) (fun E M1 h1 => RG.fin rfl (Rend.run 1 (run_callVx rfl rfl rfl rfl rfl h1 rfl)))
  show RG C_X7_transform (5, [some (.ref 0), some (.int v1), some (.int v2)], [], M1, 1) _ _
  refine RG.st 9 (congrFun (congrFun (congrFun b_X7_transform_1 v1) v2) M1) ?_
  refine RG.ite (fun h2 => RG.brNF (q := 22) h2 rfl ?_) (fun h2 => RG.brNT (q := 32) h2 rfl ?_)
  · exact RG.fin rfl (Rend.run 1 (congrFun (congrFun (congrFun b_X7_transform_2 v1) v2) M1))
  · refine RG.st 1 (congrFun (congrFun (congrFun b_X7_transform_3 v1) v2) M1) ?_
    refine RG.callV (fun M2 h3 => RG.st 1 (run_callV (v := none) rfl rfl rfl rfl rfl h3) ?_) (fun E M2 h3 => RG.fin rfl (Rend.run 1 (run_callVx rfl rfl rfl rfl rfl h3 rfl)))
    show RG C_X7_transform (36, [some (.ref 0), some (.int v1), some (.int v2)], [], M2, 2) _ _
    refine RG.st 6 (congrFun (congrFun (congrFun b_X7_transform_4 v1) v2) M2) ?_
    refine RG.bind (fun w3 h4 => RG.st 1 (run_callV (v := some (.int w3)) rfl rfl rfl rfl rfl (bindI h4)) ?_)
    show RG C_X7_transform (49, [some (.ref 0), some (.int v1), some (.int v2)], [.int w3], M2, 2) _ _
    exact RG.fin rfl (Rend.run 1 (congrFun (congrFun (congrFun (congrFun b_X7_transform_5 v1) v2) M2) w3))
def fn_X7_transform : Fn := fun av M => match av with
  | [.ref r0, .int v1, .int v2] => bif Nat.beq r0 0 then (d_X7_transform v1 v2 M) else (none)
  | _ => none
theorem cfg_X7_transform : CfgOK RX7 cX7_transform (C_X7_transform) 7 := ⟨tk_X7_transform, csF_nd, flk_X7, (List.forall_mem_cons.mpr ⟨Or.inr ⟨yX7_isFrom, cX7_isFrom, 3, (some .boolean), none, 1, ok_X7_isFrom, by decide, by decide, w_code_Sumsetry_isFrom__III_Z, w_initialized_Sumsetry, ⟨by decide, by decide⟩, Or.inl ⟨rfl, show (parseMethodDescriptor yX7_isFrom.desc).map (fun d => d.parameters.length) = some 3 from by decide +kernel, w_methodLink_Sumsetry_52, w_static_Sumsetry_isFrom__III_Z⟩⟩,
    List.forall_mem_cons.mpr ⟨Or.inr ⟨yX7_needSet, cX7_needSet, 2, none, none, 6, ok_X7_needSet, by decide, by decide, w_code_Sumsetry_needSet__I_V, w_initialized_Sumsetry, ⟨by decide, by decide⟩, Or.inr (Or.inr ⟨rfl, rfl, show (parseMethodDescriptor yX7_needSet.desc).map (fun d => d.parameters.length + 1) = some 2 from by decide +kernel, w_methodLink_Sumsetry_98, w_instanceMethod_Sumsetry_needSet__I_V, w_selects_Sumsetry_needSet__I_V, ⟨_, rfl, rfl⟩⟩)⟩,
    List.forall_mem_cons.mpr ⟨Or.inr ⟨yX7_bitsOf, cX7_bitsOf, 2, (some .long), none, 1, ok_X7_bitsOf, by decide, by decide, w_code_Sumsetry_bitsOf__I_J, w_initialized_Sumsetry, ⟨by decide, by decide⟩, Or.inr (Or.inr ⟨rfl, rfl, show (parseMethodDescriptor yX7_bitsOf.desc).map (fun d => d.parameters.length + 1) = some 2 from by decide +kernel, w_methodLink_Sumsetry_103, w_instanceMethod_Sumsetry_bitsOf__I_J, w_selects_Sumsetry_bitsOf__I_J, ⟨_, rfl, rfl⟩⟩)⟩,
    List.forall_mem_cons.mpr ⟨Or.inr ⟨yX7_needRoot, cX7_needRoot, 1, none, none, 6, ok_X7_needRoot, by decide, by decide, w_code_Sumsetry_needRoot___V, w_initialized_Sumsetry, ⟨by decide, by decide⟩, Or.inr (Or.inr ⟨rfl, rfl, show (parseMethodDescriptor yX7_needRoot.desc).map (fun d => d.parameters.length + 1) = some 1 from by decide +kernel, w_methodLink_Sumsetry_244, w_instanceMethod_Sumsetry_needRoot___V, w_selects_Sumsetry_needRoot___V, ⟨_, rfl, rfl⟩⟩)⟩,
    List.forall_mem_cons.mpr ⟨Or.inr ⟨yX6_valueAt, cX6_valueAt, 6, (some .int), none, 3, ok_X6_valueAt, by decide, by decide, w_code_Sumsetry_Transforms_valueAt__IJ_I, w_initialized_Sumsetry_Transforms, ⟨by decide, by decide⟩, Or.inr (Or.inr ⟨rfl, rfl, show (parseMethodDescriptor yX6_valueAt.desc).map (fun d => d.parameters.length + 1) = some 3 from by decide +kernel, w_methodLink_Sumsetry_247, w_instanceMethod_Sumsetry_Transforms_valueAt__IJ_I, w_selects_Sumsetry_Transforms_valueAt__IJ_I, ⟨_, rfl, rfl⟩⟩)⟩, fun _ h => absurd h List.not_mem_nil⟩⟩⟩⟩⟩), ink_X7, lgk_X7, by decide +kernel, (fun h hh => absurd hh List.not_mem_nil)⟩
theorem ok_X7_transform : OkM csF yX7_transform (Cond.code yX7_transform cX7_transform 3 (some .int)) 7 2 fn_X7_transform :=
  OkM_of (own := RX7) (C := C_X7_transform) (by decide +kernel) rfl (cfg_X7_transform) rfl rfl rfl rfl (by
    intro av M o M' h
    unfold fn_X7_transform at h
    split at h
    · rename_i r0 v1 v2
      rcases bif_cs h with ⟨hb, h⟩ | ⟨-, h⟩
      · skip
        have hr0 := hb
        obtain rfl := Nat.eq_of_beq_eq_true hr0
        exact ⟨rfl, Nat.le_of_ble_eq_true rfl, (r_X7_transform v1 v2 M) (o, M') h⟩
      · cases h
    · cases h)
def t_X7_waysAnew : List (Nat × Instr × Nat) := [(0, .aload_n 0, 1), (1, .iload_n 1, 1), (2, .invokevirtual 98, 3), (5, .aload_n 0, 1), (6, .iload_n 2, 1), (7, .invokevirtual 98, 3), (10, .aload_n 0, 1), (11, .iload_n 3, 1), (12, .invokevirtual 76, 3), (15, .aload_n 0, 1), (16, .invokevirtual 244, 3), (19, .aload_n 0, 1), (20, .getfield 48, 3), (23, .iload_n 3, 1), (24, .aload_n 0, 1), (25, .iload_n 1, 1), (26, .invokevirtual 103, 3), (29, .aload_n 0, 1), (30, .iload_n 2, 1), (31, .invokevirtual 103, 3), (34, .invokevirtual 250, 3), (37, .ireturn, 1)]
theorem tk_X7_waysAnew : ∀ x ∈ t_X7_waysAnew, decode cX7_waysAnew x.1 = .ok x.2 := by decide +kernel
def C_X7_waysAnew : Cfg := (t_X7_waysAnew, csF, fl_X7, [(76, 2, 5, 2, 1, fn_X7_needElement), (98, 2, 5, 2, 1, fn_X7_needSet), (103, 2, 5, 2, 0, fn_X7_bitsOf), (244, 2, 5, 1, 1, fn_X7_needRoot), (250, 2, 4, 4, 0, fn_X6_waysTo)], in_X7, lg_X7, [], [], none, (some .int), 4)
set_option maxRecDepth 100000 in
theorem b_X7_waysAnew_0 : (fun (v1 : Int32) (v2 : Int32) (v3 : Int32) (M : Mem) => run C_X7_waysAnew 2 (0, [some (.ref 0), some (.int v1), some (.int v2), some (.int v3)], [], M, 0)) = (fun (v1 : Int32) (v2 : Int32) (v3 : Int32) (M : Mem) => some (.inl (2, [some (.ref 0), some (.int v1), some (.int v2), some (.int v3)], [.int v1, .ref 0], M, 0))) := by rfl
set_option maxRecDepth 100000 in
theorem b_X7_waysAnew_1 : (fun (v1 : Int32) (v2 : Int32) (v3 : Int32) (M1 : Mem) => run C_X7_waysAnew 2 (5, [some (.ref 0), some (.int v1), some (.int v2), some (.int v3)], [], M1, 1)) = (fun (v1 : Int32) (v2 : Int32) (v3 : Int32) (M1 : Mem) => some (.inl (7, [some (.ref 0), some (.int v1), some (.int v2), some (.int v3)], [.int v2, .ref 0], M1, 1))) := by rfl
set_option maxRecDepth 100000 in
theorem b_X7_waysAnew_2 : (fun (v1 : Int32) (v2 : Int32) (v3 : Int32) (M2 : Mem) => run C_X7_waysAnew 2 (10, [some (.ref 0), some (.int v1), some (.int v2), some (.int v3)], [], M2, 2)) = (fun (v1 : Int32) (v2 : Int32) (v3 : Int32) (M2 : Mem) => some (.inl (12, [some (.ref 0), some (.int v1), some (.int v2), some (.int v3)], [.int v3, .ref 0], M2, 2))) := by rfl
set_option maxRecDepth 100000 in
theorem b_X7_waysAnew_3 : (fun (v1 : Int32) (v2 : Int32) (v3 : Int32) (M3 : Mem) => run C_X7_waysAnew 1 (15, [some (.ref 0), some (.int v1), some (.int v2), some (.int v3)], [], M3, 3)) = (fun (v1 : Int32) (v2 : Int32) (v3 : Int32) (M3 : Mem) => some (.inl (16, [some (.ref 0), some (.int v1), some (.int v2), some (.int v3)], [.ref 0], M3, 3))) := by rfl
set_option maxRecDepth 100000 in
theorem b_X7_waysAnew_4 : (fun (v1 : Int32) (v2 : Int32) (v3 : Int32) (M4 : Mem) => run C_X7_waysAnew 9 (19, [some (.ref 0), some (.int v1), some (.int v2), some (.int v3)], [], M4, 4)) = (fun (v1 : Int32) (v2 : Int32) (v3 : Int32) (M4 : Mem) => some (.inl (34, [some (.ref 0), some (.int v1), some (.int v2), some (.int v3)], [.long (d_X7_bitsOf v2 M4), .long (d_X7_bitsOf v1 M4), .int v3, .ref 17], M4, 4))) := by rfl
set_option maxRecDepth 100000 in
theorem b_X7_waysAnew_5 : (fun (v1 : Int32) (v2 : Int32) (v3 : Int32) (M4 : Mem) (w5 : Int32) => run C_X7_waysAnew 1 (37, [some (.ref 0), some (.int v1), some (.int v2), some (.int v3)], [.int w5], M4, 4)) = (fun (v1 : Int32) (v2 : Int32) (v3 : Int32) (M4 : Mem) (w5 : Int32) => some (.inr (.inl (some (.int w5)), M4, 4))) := by rfl
def d_X7_waysAnew (v1 : Int32) (v2 : Int32) (v3 : Int32) (M : Mem) : Option (Res × Mem) := (onV (d_X7_needSet v1 M) (fun M1 => (onV (d_X7_needSet v2 M1) (fun M2 => (onV (d_X7_needElement v3 M2) (fun M3 => (onV (d_X7_needRoot M3) (fun M4 => ((d_X6_waysTo v3 (d_X7_bitsOf v1 M4) (d_X7_bitsOf v2 M4) M4).bind fun w5 => some (.inl (some (.int w5)), M4))) (fun r => some r))) (fun r => some r))) (fun r => some r))) (fun r => some r))
set_option maxHeartbeats 2000000 in
theorem r_X7_waysAnew (v1 : Int32) (v2 : Int32) (v3 : Int32) (M : Mem) : RG C_X7_waysAnew (0, [some (.ref 0), some (.int v1), some (.int v2), some (.int v3)], [], M, 0) (d_X7_waysAnew v1 v2 v3 M) (fun r => .inr r) := by
  unfold d_X7_waysAnew
  refine RG.st 2 (congrFun (congrFun (congrFun (congrFun b_X7_waysAnew_0 v1) v2) v3) M) ?_
  refine RG.callV (fun M1 h1 => RG.st 1 (run_callV (v := none) rfl rfl rfl rfl rfl h1) ?_) (fun E M1 h1 => RG.fin rfl (Rend.run 1 (run_callVx rfl rfl rfl rfl rfl h1 rfl)))
  show RG C_X7_waysAnew (5, [some (.ref 0), some (.int v1), some (.int v2), some (.int v3)], [], M1, 1) _ _
  refine RG.st 2 (congrFun (congrFun (congrFun (congrFun b_X7_waysAnew_1 v1) v2) v3) M1) ?_
  refine RG.callV (fun M2 h2 => RG.st 1 (run_callV (v := none) rfl rfl rfl rfl rfl h2) ?_) (fun E M2 h2 => RG.fin rfl (Rend.run 1 (run_callVx rfl rfl rfl rfl rfl h2 rfl)))
  show RG C_X7_waysAnew (10, [some (.ref 0), some (.int v1), some (.int v2), some (.int v3)], [], M2, 2) _ _
  refine RG.st 2 (congrFun (congrFun (congrFun (congrFun b_X7_waysAnew_2 v1) v2) v3) M2) ?_
  refine RG.callV (fun M3 h3 => RG.st 1 (run_callV (v := none) rfl rfl rfl rfl rfl h3) ?_) (fun E M3 h3 => RG.fin rfl (Rend.run 1 (run_callVx rfl rfl rfl rfl rfl h3 rfl)))
  show RG C_X7_waysAnew (15, [some (.ref 0), some (.int v1), some (.int v2), some (.int v3)], [], M3, 3) _ _
  refine RG.st 1 (congrFun (congrFun (congrFun (congrFun b_X7_waysAnew_3 v1) v2) v3) M3) ?_
  refine RG.callV (fun M4 h4 => RG.st 1 (run_callV (v := none) rfl rfl rfl rfl rfl h4) ?_) (fun E M4 h4 => RG.fin rfl (Rend.run 1 (run_callVx rfl rfl rfl rfl rfl h4 rfl)))
  show RG C_X7_waysAnew (19, [some (.ref 0), some (.int v1), some (.int v2), some (.int v3)], [], M4, 4) _ _
  refine RG.st 9 (congrFun (congrFun (congrFun (congrFun b_X7_waysAnew_4 v1) v2) v3) M4) ?_
  refine RG.bind (fun w5 h5 => RG.st 1 (run_callV (v := some (.int w5)) rfl rfl rfl rfl rfl (bindI h5)) ?_)
  show RG C_X7_waysAnew (37, [some (.ref 0), some (.int v1), some (.int v2), some (.int v3)], [.int w5], M4, 4) _ _
  exact RG.fin rfl (Rend.run 1 (congrFun (congrFun (congrFun (congrFun (congrFun b_X7_waysAnew_5 v1) v2) v3) M4) w5))
def fn_X7_waysAnew : Fn := fun av M => match av with
  | [.ref r0, .int v1, .int v2, .int v3] => bif Nat.beq r0 0 then (d_X7_waysAnew v1 v2 v3 M) else (none)
  | _ => none
theorem cfg_X7_waysAnew : CfgOK RX7 cX7_waysAnew (C_X7_waysAnew) 7 := ⟨tk_X7_waysAnew, csF_nd, flk_X7, (List.forall_mem_cons.mpr ⟨Or.inr ⟨yX7_needElement, cX7_needElement, 2, none, none, 6, ok_X7_needElement, by decide, by decide, w_code_Sumsetry_needElement__I_V, w_initialized_Sumsetry, ⟨by decide, by decide⟩, Or.inr (Or.inr ⟨rfl, rfl, show (parseMethodDescriptor yX7_needElement.desc).map (fun d => d.parameters.length + 1) = some 2 from by decide +kernel, w_methodLink_Sumsetry_76, w_instanceMethod_Sumsetry_needElement__I_V, w_selects_Sumsetry_needElement__I_V, ⟨_, rfl, rfl⟩⟩)⟩,
    List.forall_mem_cons.mpr ⟨Or.inr ⟨yX7_needSet, cX7_needSet, 2, none, none, 6, ok_X7_needSet, by decide, by decide, w_code_Sumsetry_needSet__I_V, w_initialized_Sumsetry, ⟨by decide, by decide⟩, Or.inr (Or.inr ⟨rfl, rfl, show (parseMethodDescriptor yX7_needSet.desc).map (fun d => d.parameters.length + 1) = some 2 from by decide +kernel, w_methodLink_Sumsetry_98, w_instanceMethod_Sumsetry_needSet__I_V, w_selects_Sumsetry_needSet__I_V, ⟨_, rfl, rfl⟩⟩)⟩,
    List.forall_mem_cons.mpr ⟨Or.inr ⟨yX7_bitsOf, cX7_bitsOf, 2, (some .long), none, 1, ok_X7_bitsOf, by decide, by decide, w_code_Sumsetry_bitsOf__I_J, w_initialized_Sumsetry, ⟨by decide, by decide⟩, Or.inr (Or.inr ⟨rfl, rfl, show (parseMethodDescriptor yX7_bitsOf.desc).map (fun d => d.parameters.length + 1) = some 2 from by decide +kernel, w_methodLink_Sumsetry_103, w_instanceMethod_Sumsetry_bitsOf__I_J, w_selects_Sumsetry_bitsOf__I_J, ⟨_, rfl, rfl⟩⟩)⟩,
    List.forall_mem_cons.mpr ⟨Or.inr ⟨yX7_needRoot, cX7_needRoot, 1, none, none, 6, ok_X7_needRoot, by decide, by decide, w_code_Sumsetry_needRoot___V, w_initialized_Sumsetry, ⟨by decide, by decide⟩, Or.inr (Or.inr ⟨rfl, rfl, show (parseMethodDescriptor yX7_needRoot.desc).map (fun d => d.parameters.length + 1) = some 1 from by decide +kernel, w_methodLink_Sumsetry_244, w_instanceMethod_Sumsetry_needRoot___V, w_selects_Sumsetry_needRoot___V, ⟨_, rfl, rfl⟩⟩)⟩,
    List.forall_mem_cons.mpr ⟨Or.inr ⟨yX6_waysTo, cX6_waysTo, 9, (some .int), none, 4, ok_X6_waysTo, by decide, by decide, w_code_Sumsetry_Transforms_waysTo__IJJ_I, w_initialized_Sumsetry_Transforms, ⟨by decide, by decide⟩, Or.inr (Or.inr ⟨rfl, rfl, show (parseMethodDescriptor yX6_waysTo.desc).map (fun d => d.parameters.length + 1) = some 4 from by decide +kernel, w_methodLink_Sumsetry_250, w_instanceMethod_Sumsetry_Transforms_waysTo__IJJ_I, w_selects_Sumsetry_Transforms_waysTo__IJJ_I, ⟨_, rfl, rfl⟩⟩)⟩, fun _ h => absurd h List.not_mem_nil⟩⟩⟩⟩⟩), ink_X7, lgk_X7, fun e h => absurd h List.not_mem_nil, (fun h hh => absurd hh List.not_mem_nil)⟩
theorem ok_X7_waysAnew : OkM csF yX7_waysAnew (Cond.code yX7_waysAnew cX7_waysAnew 4 (some .int)) 7 4 fn_X7_waysAnew :=
  OkM_of (own := RX7) (C := C_X7_waysAnew) (by decide +kernel) rfl (cfg_X7_waysAnew) rfl rfl rfl rfl (by
    intro av M o M' h
    unfold fn_X7_waysAnew at h
    split at h
    · rename_i r0 v1 v2 v3
      rcases bif_cs h with ⟨hb, h⟩ | ⟨-, h⟩
      · skip
        have hr0 := hb
        obtain rfl := Nat.eq_of_beq_eq_true hr0
        exact ⟨rfl, Nat.le_of_ble_eq_true rfl, (r_X7_waysAnew v1 v2 v3 M) (o, M') h⟩
      · cases h
    · cases h)
def t_X7_of : List (Nat × Instr × Nat) := [(0, .iload_n 1, 1), (1, .tableswitch 72 0 4 #[35, 43, 51, 56, 64], 35), (36, .aload_n 0, 1), (37, .getfield 10, 3), (40, .getfield 235, 3), (43, .ireturn, 1), (44, .aload_n 0, 1), (45, .getfield 10, 3), (48, .getfield 227, 3), (51, .ireturn, 1), (52, .aload_n 0, 1), (53, .getfield 20, 3), (56, .ireturn, 1), (57, .aload_n 0, 1), (58, .getfield 41, 3), (61, .getfield 207, 3), (64, .ireturn, 1), (65, .aload_n 0, 1), (66, .getfield 48, 3), (69, .getfield 251, 3), (72, .ireturn, 1), (73, .new 56, 3), (76, .dup, 1), (77, .ldc 254, 2), (79, .invokespecial 60, 3), (82, .athrow, 1)]
theorem tk_X7_of : ∀ x ∈ t_X7_of, decode cX7_of x.1 = .ok x.2 := by decide +kernel
def C_X7_of : Cfg := (t_X7_of, csF, fl_X7, [], in_X7, lg_X7, [(73, "java/lang/IllegalArgumentException", 56, 254, 60, "what out of range")], [], none, (some .int), 1)
set_option maxRecDepth 100000 in
theorem b_X7_of_0 : (fun (v1 : Int32) (M : Mem) => run C_X7_of 1 (0, [some (.ref 0), some (.int v1)], [], M, 0)) = (fun (v1 : Int32) (M : Mem) => some (.inl (1, [some (.ref 0), some (.int v1)], [.int v1], M, 0))) := by rfl
set_option maxRecDepth 100000 in
theorem b_X7_of_1 : (fun (v1 : Int32) (M : Mem) => run C_X7_of 1 (1, [some (.ref 0), some (.int v1)], [.int (0 : Int32)], M, 0)) = (fun (v1 : Int32) (M : Mem) => some (.inl (36, [some (.ref 0), some (.int v1)], [], M, 0))) := by rfl
set_option maxRecDepth 100000 in
theorem b_X7_of_2 : (fun (v1 : Int32) (M : Mem) => run C_X7_of 4 (36, [some (.ref 0), some (.int v1)], [], M, 0)) = (fun (v1 : Int32) (M : Mem) => some (.inr (.inl (some (.int (M.1 2 0))), M, 0))) := by rfl
set_option maxRecDepth 100000 in
theorem b_X7_of_3 : (fun (v1 : Int32) (M : Mem) => run C_X7_of 1 (1, [some (.ref 0), some (.int v1)], [.int (1 : Int32)], M, 0)) = (fun (v1 : Int32) (M : Mem) => some (.inl (44, [some (.ref 0), some (.int v1)], [], M, 0))) := by rfl
set_option maxRecDepth 100000 in
theorem b_X7_of_4 : (fun (v1 : Int32) (M : Mem) => run C_X7_of 4 (44, [some (.ref 0), some (.int v1)], [], M, 0)) = (fun (v1 : Int32) (M : Mem) => some (.inr (.inl (some (.int (M.1 2 1))), M, 0))) := by rfl
set_option maxRecDepth 100000 in
theorem b_X7_of_5 : (fun (v1 : Int32) (M : Mem) => run C_X7_of 1 (1, [some (.ref 0), some (.int v1)], [.int (2 : Int32)], M, 0)) = (fun (v1 : Int32) (M : Mem) => some (.inl (52, [some (.ref 0), some (.int v1)], [], M, 0))) := by rfl
set_option maxRecDepth 100000 in
theorem b_X7_of_6 : (fun (v1 : Int32) (M : Mem) => run C_X7_of 3 (52, [some (.ref 0), some (.int v1)], [], M, 0)) = (fun (v1 : Int32) (M : Mem) => some (.inr (.inl (some (.int (M.1 0 2))), M, 0))) := by rfl
set_option maxRecDepth 100000 in
theorem b_X7_of_7 : (fun (v1 : Int32) (M : Mem) => run C_X7_of 1 (1, [some (.ref 0), some (.int v1)], [.int (3 : Int32)], M, 0)) = (fun (v1 : Int32) (M : Mem) => some (.inl (57, [some (.ref 0), some (.int v1)], [], M, 0))) := by rfl
set_option maxRecDepth 100000 in
theorem b_X7_of_8 : (fun (v1 : Int32) (M : Mem) => run C_X7_of 4 (57, [some (.ref 0), some (.int v1)], [], M, 0)) = (fun (v1 : Int32) (M : Mem) => some (.inr (.inl (some (.int (M.1 14 2))), M, 0))) := by rfl
set_option maxRecDepth 100000 in
theorem b_X7_of_9 : (fun (v1 : Int32) (M : Mem) => run C_X7_of 1 (1, [some (.ref 0), some (.int v1)], [.int (4 : Int32)], M, 0)) = (fun (v1 : Int32) (M : Mem) => some (.inl (65, [some (.ref 0), some (.int v1)], [], M, 0))) := by rfl
set_option maxRecDepth 100000 in
theorem b_X7_of_10 : (fun (v1 : Int32) (M : Mem) => run C_X7_of 4 (65, [some (.ref 0), some (.int v1)], [], M, 0)) = (fun (v1 : Int32) (M : Mem) => some (.inr (.inl (some (.int (M.1 17 0))), M, 0))) := by rfl
set_option maxRecDepth 100000 in
theorem b_X7_of_11 : (fun (v1 : Int32) (M : Mem) => run C_X7_of 1 (73, [some (.ref 0), some (.int v1)], [], M, 0)) = (fun (v1 : Int32) (M : Mem) => some (.inr (.inr "java/lang/IllegalArgumentException", M, 1))) := by rfl
def d_X7_of (v1 : Int32) (M : Mem) : Option (Res × Mem) := (if v1 = 0 then some (.inl (some (.int (M.1 2 0))), M) else (if v1 = 1 then some (.inl (some (.int (M.1 2 1))), M) else (if v1 = 2 then some (.inl (some (.int (M.1 0 2))), M) else (if v1 = 3 then some (.inl (some (.int (M.1 14 2))), M) else (if v1 = 4 then some (.inl (some (.int (M.1 17 0))), M) else (some (.inr "java/lang/IllegalArgumentException", M)))))))
set_option maxHeartbeats 2000000 in
theorem r_X7_of (v1 : Int32) (M : Mem) : RG C_X7_of (0, [some (.ref 0), some (.int v1)], [], M, 0) (d_X7_of v1 M) (fun r => .inr r) := by
  unfold d_X7_of
  refine RG.st 1 (congrFun (congrFun b_X7_of_0 v1) M) ?_
  refine RG.ite (fun h1 => RG.eqI h1 (RG.st 1 (congrFun (congrFun b_X7_of_1 v1) M) ?_)) (fun h1 => ?_)
  · exact RG.fin rfl (Rend.run 4 (congrFun (congrFun b_X7_of_2 v1) M))
  refine RG.ite (fun h2 => RG.eqI h2 (RG.st 1 (congrFun (congrFun b_X7_of_3 v1) M) ?_)) (fun h2 => ?_)
  · exact RG.fin rfl (Rend.run 4 (congrFun (congrFun b_X7_of_4 v1) M))
  refine RG.ite (fun h3 => RG.eqI h3 (RG.st 1 (congrFun (congrFun b_X7_of_5 v1) M) ?_)) (fun h3 => ?_)
  · exact RG.fin rfl (Rend.run 3 (congrFun (congrFun b_X7_of_6 v1) M))
  refine RG.ite (fun h4 => RG.eqI h4 (RG.st 1 (congrFun (congrFun b_X7_of_7 v1) M) ?_)) (fun h4 => ?_)
  · exact RG.fin rfl (Rend.run 4 (congrFun (congrFun b_X7_of_8 v1) M))
  refine RG.ite (fun h5 => RG.eqI h5 (RG.st 1 (congrFun (congrFun b_X7_of_9 v1) M) ?_)) (fun h5 => ?_)
  · exact RG.fin rfl (Rend.run 4 (congrFun (congrFun b_X7_of_10 v1) M))
  refine RG.st 1 (run_tsw (q := 73) rfl rfl (tsw_out (by have e0 : v1.toInt ≠ 0 := fun e => h1 (Int32.toInt_inj.mp (e.trans (by decide))); have e1 : v1.toInt ≠ 1 := fun e => h2 (Int32.toInt_inj.mp (e.trans (by decide))); have e2 : v1.toInt ≠ 2 := fun e => h3 (Int32.toInt_inj.mp (e.trans (by decide))); have e3 : v1.toInt ≠ 3 := fun e => h4 (Int32.toInt_inj.mp (e.trans (by decide))); have e4 : v1.toInt ≠ 4 := fun e => h5 (Int32.toInt_inj.mp (e.trans (by decide))); omega) rfl rfl)) ?_
  exact RG.fin rfl (Rend.run 1 (congrFun (congrFun b_X7_of_11 v1) M))
def fn_X7_of : Fn := fun av M => match av with
  | [.ref r0, .int v1] => bif Nat.beq r0 0 then (d_X7_of v1 M) else (none)
  | _ => none
theorem cfg_X7_of : CfgOK RX7 cX7_of (C_X7_of) 6 := ⟨tk_X7_of, csF_nd, flk_X7, (fun e h => absurd h List.not_mem_nil), ink_X7, lgk_X7, by decide +kernel, (fun h hh => absurd hh List.not_mem_nil)⟩
theorem ok_X7_of : OkM csF yX7_of (Cond.code yX7_of cX7_of 2 (some .int)) 6 1 fn_X7_of :=
  OkM_of (own := RX7) (C := C_X7_of) (by decide +kernel) rfl (cfg_X7_of) rfl rfl rfl rfl (by
    intro av M o M' h
    unfold fn_X7_of at h
    split at h
    · rename_i r0 v1
      rcases bif_cs h with ⟨hb, h⟩ | ⟨-, h⟩
      · skip
        have hr0 := hb
        obtain rfl := Nat.eq_of_beq_eq_true hr0
        exact ⟨rfl, Nat.le_of_ble_eq_true rfl, (r_X7_of v1 M) (o, M') h⟩
      · cases h
    · cases h)
def fl_X8 : List (Nat × Nat × Nat) := [(7, 19, 0), (13, 19, 1), (16, 19, 3), (20, 19, 5), (24, 19, 8), (27, 19, 9), (30, 19, 10), (33, 19, 11), (36, 19, 12), (40, 19, 13), (43, 19, 14), (46, 19, 15), (57, 19, 2), (72, 19, 4), (75, 19, 6), (179, 19, 7)]
theorem flk_X8 : ∀ e ∈ fl_X8, fldb RX8 e = true := by decide +kernel
def in_X8 : List (Nat × Int32) := []
theorem ink_X8 : ∀ e ∈ in_X8, Cond.constant RX8 e.1 e.2 ∈ TB := by decide +kernel
def lg_X8 : List (Nat × Int64) := [(86, -1)]
theorem lgk_X8 : ∀ e ∈ lg_X8, Cond.constantLong RX8 e.1 e.2 ∈ TB := by decide +kernel
def t_X8_thrown : List (Nat × Instr × Nat) := [(0, .aload_n 0, 1), (1, .getfield 46, 3), (4, .ireturn, 1)]
theorem tk_X8_thrown : ∀ x ∈ t_X8_thrown, decode cX8_thrown x.1 = .ok x.2 := by decide +kernel
def C_X8_thrown : Cfg := (t_X8_thrown, csF, fl_X8, [], in_X8, lg_X8, [], [], none, (some .int), 0)
set_option maxRecDepth 100000 in
theorem b_X8_thrown_0 : (fun (M : Mem) => run C_X8_thrown 3 (0, [some (.ref 19)], [], M, 0)) = (fun (M : Mem) => some (.inr (.inl (some (.int (M.1 19 15))), M, 0))) := by rfl
def d_X8_thrown (M : Mem) : Int32 := (M.1 19 15)
set_option maxHeartbeats 2000000 in
theorem r_X8_thrown (M : Mem) : RG C_X8_thrown (0, [some (.ref 19)], [], M, 0) (some (d_X8_thrown M)) (fun v => .inr (.inl (some (.int v)), M)) := by
  unfold d_X8_thrown
  exact RG.fin rfl (Rend.run 3 (congrFun b_X8_thrown_0 M))
def fn_X8_thrown : Fn := fun av M => match av with
  | [.ref r0] => bif Nat.beq r0 19 then some (.inl (some (.int (d_X8_thrown M))), M) else (none)
  | _ => none
theorem cfg_X8_thrown : CfgOK RX8 cX8_thrown (C_X8_thrown) 1 := ⟨tk_X8_thrown, csF_nd, flk_X8, (fun e h => absurd h List.not_mem_nil), ink_X8, lgk_X8, fun e h => absurd h List.not_mem_nil, (fun h hh => absurd hh List.not_mem_nil)⟩
theorem ok_X8_thrown : OkM csF yX8_thrown (Cond.code yX8_thrown cX8_thrown 1 (some .int)) 1 0 fn_X8_thrown :=
  OkM_of (own := RX8) (C := C_X8_thrown) (by decide +kernel) rfl (cfg_X8_thrown) rfl rfl rfl rfl (by
    intro av M o M' h
    unfold fn_X8_thrown at h
    split at h
    · rename_i r0
      rcases bif_cs h with ⟨hb, h⟩ | ⟨-, h⟩
      · skip
        have hr0 := hb
        obtain rfl := Nat.eq_of_beq_eq_true hr0
        cases h
        exact ⟨rfl, Nat.le_of_ble_eq_true rfl, (r_X8_thrown M) _ rfl⟩
      · cases h
    · cases h)
def t_X8_isIn : List (Nat × Instr × Nat) := [(0, .iload_n 0, 1), (1, .iload_n 1, 1), (2, .if_icmp .lt 12, 3), (5, .iload_n 0, 1), (6, .iload_n 2, 1), (7, .if_icmp .gt 7, 3), (10, .iconst 1, 1), (11, .goto 4, 3), (14, .iconst 0, 1), (15, .ireturn, 1)]
theorem tk_X8_isIn : ∀ x ∈ t_X8_isIn, decode cX8_isIn x.1 = .ok x.2 := by decide +kernel
def C_X8_isIn : Cfg := (t_X8_isIn, csF, fl_X8, [], in_X8, lg_X8, [], [], none, (some .boolean), 0)
set_option maxRecDepth 100000 in
theorem b_X8_isIn_0 : (fun (v0 : Int32) (v1 : Int32) (v2 : Int32) (M : Mem) => run C_X8_isIn 3 (0, [some (.int v0), some (.int v1), some (.int v2)], [], M, 0)) = (fun (v0 : Int32) (v1 : Int32) (v2 : Int32) (M : Mem) => some (.inl ((br (decide (v0 < v1)) 2 3 (12)), [some (.int v0), some (.int v1), some (.int v2)], [], M, 0))) := by rfl
set_option maxRecDepth 100000 in
theorem b_X8_isIn_1 : (fun (v0 : Int32) (v1 : Int32) (v2 : Int32) (M : Mem) => run C_X8_isIn 2 (14, [some (.int v0), some (.int v1), some (.int v2)], [], M, 0)) = (fun (v0 : Int32) (v1 : Int32) (v2 : Int32) (M : Mem) => some (.inr (.inl (some (.int (0 : Int32))), M, 0))) := by rfl
set_option maxRecDepth 100000 in
theorem b_X8_isIn_2 : (fun (v0 : Int32) (v1 : Int32) (v2 : Int32) (M : Mem) => run C_X8_isIn 3 (5, [some (.int v0), some (.int v1), some (.int v2)], [], M, 0)) = (fun (v0 : Int32) (v1 : Int32) (v2 : Int32) (M : Mem) => some (.inl ((br (!decide (v0 ≤ v2)) 7 3 (7)), [some (.int v0), some (.int v1), some (.int v2)], [], M, 0))) := by rfl
set_option maxRecDepth 100000 in
theorem b_X8_isIn_3 : (fun (v0 : Int32) (v1 : Int32) (v2 : Int32) (M : Mem) => run C_X8_isIn 3 (10, [some (.int v0), some (.int v1), some (.int v2)], [], M, 0)) = (fun (v0 : Int32) (v1 : Int32) (v2 : Int32) (M : Mem) => some (.inr (.inl (some (.int (1 : Int32))), M, 0))) := by rfl
set_option maxRecDepth 100000 in
theorem b_X8_isIn_4 : (fun (v0 : Int32) (v1 : Int32) (v2 : Int32) (M : Mem) => run C_X8_isIn 2 (14, [some (.int v0), some (.int v1), some (.int v2)], [], M, 0)) = (fun (v0 : Int32) (v1 : Int32) (v2 : Int32) (M : Mem) => some (.inr (.inl (some (.int (0 : Int32))), M, 0))) := by rfl
def d_X8_isIn (v0 : Int32) (v1 : Int32) (v2 : Int32) : Int32 := (if v0 < v1 then (0 : Int32) else (if v0 ≤ v2 then (1 : Int32) else (0 : Int32)))
set_option maxHeartbeats 2000000 in
theorem r_X8_isIn (v0 : Int32) (v1 : Int32) (v2 : Int32) (M : Mem) : RG C_X8_isIn (0, [some (.int v0), some (.int v1), some (.int v2)], [], M, 0) (some (d_X8_isIn v0 v1 v2)) (fun v => .inr (.inl (some (.int v)), M)) := by
  unfold d_X8_isIn
  refine RG.st 3 (congrFun (congrFun (congrFun (congrFun b_X8_isIn_0 v0) v1) v2) M) ?_
  refine RG.ites (fun h1 => RG.brT (q := 14) h1 rfl ?_) (fun h1 => RG.brF (q := 5) h1 rfl ?_)
  · exact RG.fin rfl (Rend.run 2 (congrFun (congrFun (congrFun (congrFun b_X8_isIn_1 v0) v1) v2) M))
  · refine RG.st 3 (congrFun (congrFun (congrFun (congrFun b_X8_isIn_2 v0) v1) v2) M) ?_
    refine RG.ites (fun h2 => RG.brNF (q := 10) h2 rfl ?_) (fun h2 => RG.brNT (q := 14) h2 rfl ?_)
    · exact RG.fin rfl (Rend.run 3 (congrFun (congrFun (congrFun (congrFun b_X8_isIn_3 v0) v1) v2) M))
    · exact RG.fin rfl (Rend.run 2 (congrFun (congrFun (congrFun (congrFun b_X8_isIn_4 v0) v1) v2) M))
def fn_X8_isIn : Fn := fun av M => match av with
  | [.int v0, .int v1, .int v2] => some (.inl (some (.int (d_X8_isIn v0 v1 v2))), M)
  | _ => none
theorem cfg_X8_isIn : CfgOK RX8 cX8_isIn (C_X8_isIn) 1 := ⟨tk_X8_isIn, csF_nd, flk_X8, (fun e h => absurd h List.not_mem_nil), ink_X8, lgk_X8, fun e h => absurd h List.not_mem_nil, (fun h hh => absurd hh List.not_mem_nil)⟩
theorem ok_X8_isIn : OkM csF yX8_isIn (Cond.code yX8_isIn cX8_isIn 3 (some .boolean)) 1 0 fn_X8_isIn :=
  OkM_of (own := RX8) (C := C_X8_isIn) (by decide +kernel) rfl (cfg_X8_isIn) rfl rfl rfl rfl (by
    intro av M o M' h
    unfold fn_X8_isIn at h
    split at h
    · rename_i v0 v1 v2
      cases h
      exact ⟨rfl, Nat.le_of_ble_eq_true rfl, (r_X8_isIn v0 v1 v2 M) _ rfl⟩
    · cases h)
def t_X8_size : List (Nat × Instr × Nat) := [(0, .aload_n 0, 1), (1, .getfield 7, 3), (4, .aload_n 0, 1), (5, .getfield 13, 3), (8, .imul, 1), (9, .ireturn, 1)]
theorem tk_X8_size : ∀ x ∈ t_X8_size, decode cX8_size x.1 = .ok x.2 := by decide +kernel
def C_X8_size : Cfg := (t_X8_size, csF, fl_X8, [], in_X8, lg_X8, [], [], none, (some .int), 0)
set_option maxRecDepth 100000 in
theorem b_X8_size_0 : (fun (M : Mem) => run C_X8_size 6 (0, [some (.ref 19)], [], M, 0)) = (fun (M : Mem) => some (.inr (.inl (some (.int ((M.1 19 0) * (M.1 19 1)))), M, 0))) := by rfl
def d_X8_size (M : Mem) : Int32 := ((M.1 19 0) * (M.1 19 1))
set_option maxHeartbeats 2000000 in
theorem r_X8_size (M : Mem) : RG C_X8_size (0, [some (.ref 19)], [], M, 0) (some (d_X8_size M)) (fun v => .inr (.inl (some (.int v)), M)) := by
  unfold d_X8_size
  exact RG.fin rfl (Rend.run 6 (congrFun b_X8_size_0 M))
def fn_X8_size : Fn := fun av M => match av with
  | [.ref r0] => bif Nat.beq r0 19 then some (.inl (some (.int (d_X8_size M))), M) else (none)
  | _ => none
theorem cfg_X8_size : CfgOK RX8 cX8_size (C_X8_size) 1 := ⟨tk_X8_size, csF_nd, flk_X8, (fun e h => absurd h List.not_mem_nil), ink_X8, lgk_X8, fun e h => absurd h List.not_mem_nil, (fun h hh => absurd hh List.not_mem_nil)⟩
theorem ok_X8_size : OkM csF yX8_size (Cond.code yX8_size cX8_size 1 (some .int)) 1 0 fn_X8_size :=
  OkM_of (own := RX8) (C := C_X8_size) (by decide +kernel) rfl (cfg_X8_size) rfl rfl rfl rfl (by
    intro av M o M' h
    unfold fn_X8_size at h
    split at h
    · rename_i r0
      rcases bif_cs h with ⟨hb, h⟩ | ⟨-, h⟩
      · skip
        have hr0 := hb
        obtain rfl := Nat.eq_of_beq_eq_true hr0
        cases h
        exact ⟨rfl, Nat.le_of_ble_eq_true rfl, (r_X8_size M) _ rfl⟩
      · cases h
    · cases h)
def t_X8_whole : List (Nat × Instr × Nat) := [(0, .lconst 1, 1), (1, .aload_n 0, 1), (2, .invokevirtual 49, 3), (5, .lshl, 1), (6, .lconst 1, 1), (7, .lsub, 1), (8, .lreturn, 1)]
theorem tk_X8_whole : ∀ x ∈ t_X8_whole, decode cX8_whole x.1 = .ok x.2 := by decide +kernel
def C_X8_whole : Cfg := (t_X8_whole, csF, fl_X8, [(49, 2, 6, 1, 0, fn_X8_size)], in_X8, lg_X8, [], [], none, (some .long), 0)
set_option maxRecDepth 100000 in
theorem b_X8_whole_0 : (fun (M : Mem) => run C_X8_whole 7 (0, [some (.ref 19)], [], M, 0)) = (fun (M : Mem) => some (.inr (.inl (some (.long ((jshl (1 : Int64) (d_X8_size M)) - (1 : Int64)))), M, 0))) := by rfl
def d_X8_whole (M : Mem) : Int64 := ((jshl (1 : Int64) (d_X8_size M)) - (1 : Int64))
set_option maxHeartbeats 2000000 in
theorem r_X8_whole (M : Mem) : RG C_X8_whole (0, [some (.ref 19)], [], M, 0) (some (d_X8_whole M)) (fun v => .inr (.inl (some (.long v)), M)) := by
  unfold d_X8_whole
  exact RG.fin rfl (Rend.run 7 (congrFun b_X8_whole_0 M))
def fn_X8_whole : Fn := fun av M => match av with
  | [.ref r0] => bif Nat.beq r0 19 then some (.inl (some (.long (d_X8_whole M))), M) else (none)
  | _ => none
theorem cfg_X8_whole : CfgOK RX8 cX8_whole (C_X8_whole) 2 := ⟨tk_X8_whole, csF_nd, flk_X8, (List.forall_mem_cons.mpr ⟨Or.inr ⟨yX8_size, cX8_size, 1, (some .int), none, 1, ok_X8_size, by decide, by decide, w_code_SumsetryModel_size___I, w_initialized_SumsetryModel, ⟨by decide, by decide⟩, Or.inr (Or.inr ⟨rfl, rfl, show (parseMethodDescriptor yX8_size.desc).map (fun d => d.parameters.length + 1) = some 1 from by decide +kernel, w_methodLink_SumsetryModel_49, w_instanceMethod_SumsetryModel_size___I, w_selects_SumsetryModel_size___I, ⟨_, rfl, rfl⟩⟩)⟩, fun _ h => absurd h List.not_mem_nil⟩), ink_X8, lgk_X8, fun e h => absurd h List.not_mem_nil, (fun h hh => absurd hh List.not_mem_nil)⟩
theorem ok_X8_whole : OkM csF yX8_whole (Cond.code yX8_whole cX8_whole 1 (some .long)) 2 0 fn_X8_whole :=
  OkM_of (own := RX8) (C := C_X8_whole) (by decide +kernel) rfl (cfg_X8_whole) rfl rfl rfl rfl (by
    intro av M o M' h
    unfold fn_X8_whole at h
    split at h
    · rename_i r0
      rcases bif_cs h with ⟨hb, h⟩ | ⟨-, h⟩
      · skip
        have hr0 := hb
        obtain rfl := Nat.eq_of_beq_eq_true hr0
        cases h
        exact ⟨rfl, Nat.le_of_ble_eq_true rfl, (r_X8_whole M) _ rfl⟩
      · cases h
    · cases h)
def t_X8_isElement : List (Nat × Instr × Nat) := [(0, .iload_n 1, 1), (1, .iconst 0, 1), (2, .aload_n 0, 1), (3, .invokevirtual 49, 3), (6, .iconst 1, 1), (7, .isub, 1), (8, .invokestatic 53, 3), (11, .ireturn, 1)]
theorem tk_X8_isElement : ∀ x ∈ t_X8_isElement, decode cX8_isElement x.1 = .ok x.2 := by decide +kernel
def C_X8_isElement : Cfg := (t_X8_isElement, csF, fl_X8, [(49, 2, 6, 1, 0, fn_X8_size), (53, 0, 6, 3, 0, fn_X8_isIn)], in_X8, lg_X8, [], [], none, (some .boolean), 0)
set_option maxRecDepth 100000 in
theorem b_X8_isElement_0 : (fun (v1 : Int32) (M : Mem) => run C_X8_isElement 8 (0, [some (.ref 19), some (.int v1)], [], M, 0)) = (fun (v1 : Int32) (M : Mem) => some (.inr (.inl (some (.int ((d_X8_isIn v1 (0 : Int32) ((d_X8_size M) - (1 : Int32))) &&& 1))), M, 0))) := by rfl
def d_X8_isElement (v1 : Int32) (M : Mem) : Int32 := ((d_X8_isIn v1 (0 : Int32) ((d_X8_size M) - (1 : Int32))) &&& 1)
set_option maxHeartbeats 2000000 in
theorem r_X8_isElement (v1 : Int32) (M : Mem) : RG C_X8_isElement (0, [some (.ref 19), some (.int v1)], [], M, 0) (some (d_X8_isElement v1 M)) (fun v => .inr (.inl (some (.int v)), M)) := by
  unfold d_X8_isElement
  exact RG.fin rfl (Rend.run 8 (congrFun (congrFun b_X8_isElement_0 v1) M))
def fn_X8_isElement : Fn := fun av M => match av with
  | [.ref r0, .int v1] => bif Nat.beq r0 19 then some (.inl (some (.int (d_X8_isElement v1 M))), M) else (none)
  | _ => none
theorem cfg_X8_isElement : CfgOK RX8 cX8_isElement (C_X8_isElement) 2 := ⟨tk_X8_isElement, csF_nd, flk_X8, (List.forall_mem_cons.mpr ⟨Or.inr ⟨yX8_size, cX8_size, 1, (some .int), none, 1, ok_X8_size, by decide, by decide, w_code_SumsetryModel_size___I, w_initialized_SumsetryModel, ⟨by decide, by decide⟩, Or.inr (Or.inr ⟨rfl, rfl, show (parseMethodDescriptor yX8_size.desc).map (fun d => d.parameters.length + 1) = some 1 from by decide +kernel, w_methodLink_SumsetryModel_49, w_instanceMethod_SumsetryModel_size___I, w_selects_SumsetryModel_size___I, ⟨_, rfl, rfl⟩⟩)⟩,
    List.forall_mem_cons.mpr ⟨Or.inr ⟨yX8_isIn, cX8_isIn, 3, (some .boolean), none, 1, ok_X8_isIn, by decide, by decide, w_code_SumsetryModel_isIn__III_Z, w_initialized_SumsetryModel, ⟨by decide, by decide⟩, Or.inl ⟨rfl, show (parseMethodDescriptor yX8_isIn.desc).map (fun d => d.parameters.length) = some 3 from by decide +kernel, w_methodLink_SumsetryModel_53, w_static_SumsetryModel_isIn__III_Z⟩⟩, fun _ h => absurd h List.not_mem_nil⟩⟩), ink_X8, lgk_X8, fun e h => absurd h List.not_mem_nil, (fun h hh => absurd hh List.not_mem_nil)⟩
theorem ok_X8_isElement : OkM csF yX8_isElement (Cond.code yX8_isElement cX8_isElement 2 (some .boolean)) 2 0 fn_X8_isElement :=
  OkM_of (own := RX8) (C := C_X8_isElement) (by decide +kernel) rfl (cfg_X8_isElement) rfl rfl rfl rfl (by
    intro av M o M' h
    unfold fn_X8_isElement at h
    split at h
    · rename_i r0 v1
      rcases bif_cs h with ⟨hb, h⟩ | ⟨-, h⟩
      · skip
        have hr0 := hb
        obtain rfl := Nat.eq_of_beq_eq_true hr0
        cases h
        exact ⟨rfl, Nat.le_of_ble_eq_true rfl, (r_X8_isElement v1 M) _ rfl⟩
      · cases h
    · cases h)
def t_X8_isSet : List (Nat × Instr × Nat) := [(0, .iload_n 1, 1), (1, .iconst 0, 1), (2, .aload_n 0, 1), (3, .getfield 57, 3), (6, .iconst 1, 1), (7, .isub, 1), (8, .invokestatic 53, 3), (11, .ireturn, 1)]
theorem tk_X8_isSet : ∀ x ∈ t_X8_isSet, decode cX8_isSet x.1 = .ok x.2 := by decide +kernel
def C_X8_isSet : Cfg := (t_X8_isSet, csF, fl_X8, [(53, 0, 6, 3, 0, fn_X8_isIn)], in_X8, lg_X8, [], [], none, (some .boolean), 0)
set_option maxRecDepth 100000 in
theorem b_X8_isSet_0 : (fun (v1 : Int32) (M : Mem) => run C_X8_isSet 8 (0, [some (.ref 19), some (.int v1)], [], M, 0)) = (fun (v1 : Int32) (M : Mem) => some (.inr (.inl (some (.int ((d_X8_isIn v1 (0 : Int32) ((M.1 19 2) - (1 : Int32))) &&& 1))), M, 0))) := by rfl
def d_X8_isSet (v1 : Int32) (M : Mem) : Int32 := ((d_X8_isIn v1 (0 : Int32) ((M.1 19 2) - (1 : Int32))) &&& 1)
set_option maxHeartbeats 2000000 in
theorem r_X8_isSet (v1 : Int32) (M : Mem) : RG C_X8_isSet (0, [some (.ref 19), some (.int v1)], [], M, 0) (some (d_X8_isSet v1 M)) (fun v => .inr (.inl (some (.int v)), M)) := by
  unfold d_X8_isSet
  exact RG.fin rfl (Rend.run 8 (congrFun (congrFun b_X8_isSet_0 v1) M))
def fn_X8_isSet : Fn := fun av M => match av with
  | [.ref r0, .int v1] => bif Nat.beq r0 19 then some (.inl (some (.int (d_X8_isSet v1 M))), M) else (none)
  | _ => none
theorem cfg_X8_isSet : CfgOK RX8 cX8_isSet (C_X8_isSet) 2 := ⟨tk_X8_isSet, csF_nd, flk_X8, (List.forall_mem_cons.mpr ⟨Or.inr ⟨yX8_isIn, cX8_isIn, 3, (some .boolean), none, 1, ok_X8_isIn, by decide, by decide, w_code_SumsetryModel_isIn__III_Z, w_initialized_SumsetryModel, ⟨by decide, by decide⟩, Or.inl ⟨rfl, show (parseMethodDescriptor yX8_isIn.desc).map (fun d => d.parameters.length) = some 3 from by decide +kernel, w_methodLink_SumsetryModel_53, w_static_SumsetryModel_isIn__III_Z⟩⟩, fun _ h => absurd h List.not_mem_nil⟩), ink_X8, lgk_X8, fun e h => absurd h List.not_mem_nil, (fun h hh => absurd hh List.not_mem_nil)⟩
theorem ok_X8_isSet : OkM csF yX8_isSet (Cond.code yX8_isSet cX8_isSet 2 (some .boolean)) 2 0 fn_X8_isSet :=
  OkM_of (own := RX8) (C := C_X8_isSet) (by decide +kernel) rfl (cfg_X8_isSet) rfl rfl rfl rfl (by
    intro av M o M' h
    unfold fn_X8_isSet at h
    split at h
    · rename_i r0 v1
      rcases bif_cs h with ⟨hb, h⟩ | ⟨-, h⟩
      · skip
        have hr0 := hb
        obtain rfl := Nat.eq_of_beq_eq_true hr0
        cases h
        exact ⟨rfl, Nat.le_of_ble_eq_true rfl, (r_X8_isSet v1 M) _ rfl⟩
      · cases h
    · cases h)
def t_X8_has : List (Nat × Instr × Nat) := [(0, .lload_n 0, 1), (1, .iload_n 2, 1), (2, .lushr, 1), (3, .lconst 1, 1), (4, .land, 1), (5, .lconst 1, 1), (6, .lcmp, 1), (7, .ifCond .ne 7, 3), (10, .iconst 1, 1), (11, .goto 4, 3), (14, .iconst 0, 1), (15, .ireturn, 1)]
theorem tk_X8_has : ∀ x ∈ t_X8_has, decode cX8_has x.1 = .ok x.2 := by decide +kernel
def C_X8_has : Cfg := (t_X8_has, csF, fl_X8, [], in_X8, lg_X8, [], [], none, (some .boolean), 0)
set_option maxRecDepth 100000 in
theorem b_X8_has_0 : (fun (v0 : Int64) (v2 : Int32) (M : Mem) => run C_X8_has 8 (0, [some (.long v0), none, some (.int v2)], [], M, 0)) = (fun (v0 : Int64) (v2 : Int32) (M : Mem) => some (.inl ((br (!decide ((lg_cmp ((jushr v0 v2) &&& (1 : Int64)) (1 : Int64)) = 0)) 7 3 (7)), [some (.long v0), none, some (.int v2)], [], M, 0))) := by rfl
set_option maxRecDepth 100000 in
theorem b_X8_has_1 : (fun (v0 : Int64) (v2 : Int32) (M : Mem) => run C_X8_has 3 (10, [some (.long v0), none, some (.int v2)], [], M, 0)) = (fun (v0 : Int64) (v2 : Int32) (M : Mem) => some (.inr (.inl (some (.int (1 : Int32))), M, 0))) := by rfl
set_option maxRecDepth 100000 in
theorem b_X8_has_2 : (fun (v0 : Int64) (v2 : Int32) (M : Mem) => run C_X8_has 2 (14, [some (.long v0), none, some (.int v2)], [], M, 0)) = (fun (v0 : Int64) (v2 : Int32) (M : Mem) => some (.inr (.inl (some (.int (0 : Int32))), M, 0))) := by rfl
def d_X8_has (v0 : Int64) (v2 : Int32) : Int32 := (if (lg_cmp ((jushr v0 v2) &&& (1 : Int64)) (1 : Int64)) = 0 then (1 : Int32) else (0 : Int32))
set_option maxHeartbeats 2000000 in
theorem r_X8_has (v0 : Int64) (v2 : Int32) (M : Mem) : RG C_X8_has (0, [some (.long v0), none, some (.int v2)], [], M, 0) (some (d_X8_has v0 v2)) (fun v => .inr (.inl (some (.int v)), M)) := by
  unfold d_X8_has
  refine RG.st 8 (congrFun (congrFun (congrFun b_X8_has_0 v0) v2) M) ?_
  refine RG.ites (fun h1 => RG.brNF (q := 10) h1 rfl ?_) (fun h1 => RG.brNT (q := 14) h1 rfl ?_)
  · exact RG.fin rfl (Rend.run 3 (congrFun (congrFun (congrFun b_X8_has_1 v0) v2) M))
  · exact RG.fin rfl (Rend.run 2 (congrFun (congrFun (congrFun b_X8_has_2 v0) v2) M))
def fn_X8_has : Fn := fun av M => match av with
  | [.long v0, .int v2] => some (.inl (some (.int (d_X8_has v0 v2))), M)
  | _ => none
theorem cfg_X8_has : CfgOK RX8 cX8_has (C_X8_has) 1 := ⟨tk_X8_has, csF_nd, flk_X8, (fun e h => absurd h List.not_mem_nil), ink_X8, lgk_X8, fun e h => absurd h List.not_mem_nil, (fun h hh => absurd hh List.not_mem_nil)⟩
theorem ok_X8_has : OkM csF yX8_has (Cond.code yX8_has cX8_has 3 (some .boolean)) 1 0 fn_X8_has :=
  OkM_of (own := RX8) (C := C_X8_has) (by decide +kernel) rfl (cfg_X8_has) rfl rfl rfl rfl (by
    intro av M o M' h
    unfold fn_X8_has at h
    split at h
    · rename_i v0 v2
      cases h
      exact ⟨rfl, Nat.le_of_ble_eq_true rfl, (r_X8_has v0 v2 M) _ rfl⟩
    · cases h)
def t_X8_many : List (Nat × Instr × Nat) := [(0, .iconst 0, 1), (1, .istore_n 2, 1), (2, .iconst 0, 1), (3, .istore_n 3, 1), (4, .iload_n 3, 1), (5, .bipush 36, 2), (7, .if_icmp .ge 25, 3), (10, .iload_n 2, 1), (11, .lload_n 0, 1), (12, .iload_n 3, 1), (13, .invokestatic 60, 3), (16, .ifCond .eq 7, 3), (19, .iconst 1, 1), (20, .goto 4, 3), (23, .iconst 0, 1), (24, .iadd, 1), (25, .istore_n 2, 1), (26, .iinc 3 1, 3), (29, .goto (-25), 3), (32, .iload_n 2, 1), (33, .ireturn, 1)]
theorem tk_X8_many : ∀ x ∈ t_X8_many, decode cX8_many x.1 = .ok x.2 := by decide +kernel
def C_X8_many : Cfg := (t_X8_many, csF, fl_X8, [(60, 0, 6, 2, 0, fn_X8_has)], in_X8, lg_X8, [], [], none, (some .int), 0)
set_option maxRecDepth 100000 in
theorem b_X8_many_0 : (fun (v0 : Int64) (M : Mem) => run C_X8_many 4 (0, [some (.long v0), none, none, none], [], M, 0)) = (fun (v0 : Int64) (M : Mem) => some (.inl (4, [some (.long v0), none, some (.int (0 : Int32)), some (.int (0 : Int32))], [], M, 0))) := by rfl
set_option maxRecDepth 100000 in
theorem b_X8_many_1 : (fun (v0 : Int64) (M : Mem) (a1 : (Int32 × Int32)) => run C_X8_many 3 (4, [some (.long v0), none, some (.int a1.1), some (.int a1.2)], [], M, 0)) = (fun (v0 : Int64) (M : Mem) (a1 : (Int32 × Int32)) => some (.inl ((br (!decide (a1.2 < (36 : Int32))) 7 3 (25)), [some (.long v0), none, some (.int a1.1), some (.int a1.2)], [], M, 0))) := by rfl
set_option maxRecDepth 100000 in
theorem b_X8_many_2 : (fun (v0 : Int64) (M : Mem) (a1 : (Int32 × Int32)) => run C_X8_many 5 (10, [some (.long v0), none, some (.int a1.1), some (.int a1.2)], [], M, 0)) = (fun (v0 : Int64) (M : Mem) (a1 : (Int32 × Int32)) => some (.inl ((br (decide ((d_X8_has v0 a1.2) = 0)) 16 3 (7)), [some (.long v0), none, some (.int a1.1), some (.int a1.2)], [.int a1.1], M, 0))) := by rfl
set_option maxRecDepth 100000 in
theorem b_X8_many_3 : (fun (v0 : Int64) (M : Mem) (a1 : (Int32 × Int32)) => run C_X8_many 1 (23, [some (.long v0), none, some (.int a1.1), some (.int a1.2)], [.int a1.1], M, 0)) = (fun (v0 : Int64) (M : Mem) (a1 : (Int32 × Int32)) => some (.inl (24, [some (.long v0), none, some (.int a1.1), some (.int a1.2)], [.int (0 : Int32), .int a1.1], M, 0))) := by rfl
set_option maxRecDepth 100000 in
theorem b_X8_many_4 : (fun (v0 : Int64) (M : Mem) (a1 : (Int32 × Int32)) => run C_X8_many 2 (19, [some (.long v0), none, some (.int a1.1), some (.int a1.2)], [.int a1.1], M, 0)) = (fun (v0 : Int64) (M : Mem) (a1 : (Int32 × Int32)) => some (.inl (24, [some (.long v0), none, some (.int a1.1), some (.int a1.2)], [.int (1 : Int32), .int a1.1], M, 0))) := by rfl
theorem m_X8_many_0 (v0 : Int64) (M : Mem) (a1 : (Int32 × Int32)) : Rto C_X8_many (10, [some (.long v0), none, some (.int a1.1), some (.int a1.2)], [], M, 0) (24, [some (.long v0), none, some (.int a1.1), some (.int a1.2)], [.int (if (d_X8_has v0 a1.2) = 0 then (0 : Int32) else (1 : Int32)), .int a1.1], M, 0) := by
  refine Rto.trans (Rto.run 5 (congrFun (congrFun (congrFun b_X8_many_2 v0) M) a1)) ?_
  by_cases h : (d_X8_has v0 a1.2) = 0
  · refine Rto.trans (Rto.brT (q := 23) h rfl) ?_
    refine Rto.trans (Rto.run 1 (congrFun (congrFun (congrFun b_X8_many_3 v0) M) a1)) ?_
    exact Rto.eq (by first | (simp only [if_pos h]; done) | rfl | exact absurd rfl h | (simp; done))
  · refine Rto.trans (Rto.brF (q := 19) h rfl) ?_
    refine Rto.trans (Rto.run 2 (congrFun (congrFun (congrFun b_X8_many_4 v0) M) a1)) ?_
    exact Rto.eq (by first | (simp only [if_neg h]; done) | rfl | exact absurd rfl h | (simp; done))
set_option maxRecDepth 100000 in
theorem b_X8_many_5 : (fun (v0 : Int64) (M : Mem) (a1 : (Int32 × Int32)) => run C_X8_many 4 (24, [some (.long v0), none, some (.int a1.1), some (.int a1.2)], [.int (if (d_X8_has v0 a1.2) = 0 then (0 : Int32) else (1 : Int32)), .int a1.1], M, 0)) = (fun (v0 : Int64) (M : Mem) (a1 : (Int32 × Int32)) => some (.inl (4, [some (.long v0), none, some (.int (a1.1 + (if (d_X8_has v0 a1.2) = 0 then (0 : Int32) else (1 : Int32)))), some (.int (a1.2 + (1 : Int32)))], [], M, 0))) := by rfl
def g_X8_many_1 (v0 : Int64) : Int32 × Int32 → Option ((Int32 × Int32) ⊕ ((Int32 × Int32) ⊕ Int32)) := fun (a1 : Int32 × Int32) => (if a1.2 < (36 : Int32) then some (.inl ((a1.1 + (if (d_X8_has v0 a1.2) = 0 then (0 : Int32) else (1 : Int32))), (a1.2 + (1 : Int32)))) else some (.inr (.inl (a1.1, a1.2))))
set_option maxHeartbeats 2000000 in
theorem l_X8_many_1 (v0 : Int64) (M : Mem) : ∀ a1 : Int32 × Int32, RG C_X8_many ((fun (a1 : Int32 × Int32) => (4, [some (.long v0), none, some (.int a1.1), some (.int a1.2)], [], M, 0)) a1) (g_X8_many_1 v0 a1) (lpP (fun (a1 : Int32 × Int32) => (4, [some (.long v0), none, some (.int a1.1), some (.int a1.2)], [], M, 0)) (fun (a1 : Int32 × Int32) => (32, [some (.long v0), none, some (.int a1.1), some (.int a1.2)], [], M, 0)) (fun (v : Int32) => (.inl (some (.int v)), M))) := by
  intro a1
  unfold g_X8_many_1
  show RG C_X8_many (4, [some (.long v0), none, some (.int a1.1), some (.int a1.2)], [], M, 0) _ _
  refine RG.st 3 (congrFun (congrFun (congrFun b_X8_many_1 v0) M) a1) ?_
  refine RG.ite (fun h1 => RG.brNF (q := 10) h1 rfl ?_) (fun h1 => RG.brNT (q := 32) h1 rfl ?_)
  · refine RG.step (m_X8_many_0 v0 M a1) ?_
    refine RG.st 4 (congrFun (congrFun (congrFun b_X8_many_5 v0) M) a1) ?_
    exact RG.to rfl (Rto.refl _)
  · exact RG.to rfl (Rto.refl _)
set_option maxRecDepth 100000 in
theorem b_X8_many_6 : (fun (v0 : Int64) (M : Mem) (a2 : (Int32 × Int32)) => run C_X8_many 2 (32, [some (.long v0), none, some (.int a2.1), some (.int a2.2)], [], M, 0)) = (fun (v0 : Int64) (M : Mem) (a2 : (Int32 × Int32)) => some (.inr (.inl (some (.int a2.1)), M, 0))) := by rfl
def d_X8_many (v0 : Int64) : Option Int32 := (onIt (iter (g_X8_many_1 v0) 20000 ((0 : Int32), (0 : Int32))) (fun (a2 : Int32 × Int32) => some a2.1) (fun r => some r))
set_option maxHeartbeats 2000000 in
theorem r_X8_many (v0 : Int64) (M : Mem) : RG C_X8_many (0, [some (.long v0), none, none, none], [], M, 0) (d_X8_many v0) (fun v => .inr (.inl (some (.int v)), M)) := by
  unfold d_X8_many
  refine RG.st 4 (congrFun (congrFun b_X8_many_0 v0) M) ?_
  refine RG.loop (hd := (fun (a1 : Int32 × Int32) => (4, [some (.long v0), none, some (.int a1.1), some (.int a1.2)], [], M, 0))) (ex := (fun (a1 : Int32 × Int32) => (32, [some (.long v0), none, some (.int a1.1), some (.int a1.2)], [], M, 0))) (rt := (fun (v : Int32) => (.inl (some (.int v)), M))) (l_X8_many_1 v0 M) (fun a2 => ?_) (fun r v h => by cases h; rfl)
  show RG C_X8_many (32, [some (.long v0), none, some (.int a2.1), some (.int a2.2)], [], M, 0) _ _
  exact RG.fin rfl (Rend.run 2 (congrFun (congrFun (congrFun b_X8_many_6 v0) M) a2))
def fn_X8_many : Fn := fun av M => match av with
  | [.long v0] => (d_X8_many v0).bind fun v => some (.inl (some (.int v)), M)
  | _ => none
theorem cfg_X8_many : CfgOK RX8 cX8_many (C_X8_many) 2 := ⟨tk_X8_many, csF_nd, flk_X8, (List.forall_mem_cons.mpr ⟨Or.inr ⟨yX8_has, cX8_has, 3, (some .boolean), none, 1, ok_X8_has, by decide, by decide, w_code_SumsetryModel_has__JI_Z, w_initialized_SumsetryModel, ⟨by decide, by decide⟩, Or.inl ⟨rfl, show (parseMethodDescriptor yX8_has.desc).map (fun d => d.parameters.length) = some 2 from by decide +kernel, w_methodLink_SumsetryModel_60, w_static_SumsetryModel_has__JI_Z⟩⟩, fun _ h => absurd h List.not_mem_nil⟩), ink_X8, lgk_X8, fun e h => absurd h List.not_mem_nil, (fun h hh => absurd hh List.not_mem_nil)⟩
theorem ok_X8_many : OkM csF yX8_many (Cond.code yX8_many cX8_many 4 (some .int)) 2 0 fn_X8_many :=
  OkM_of (own := RX8) (C := C_X8_many) (by decide +kernel) rfl (cfg_X8_many) rfl rfl rfl rfl (by
    intro av M o M' h
    unfold fn_X8_many at h
    split at h
    · rename_i v0
      obtain ⟨w, hw, h⟩ := bind_cs h
      cases h
      exact ⟨rfl, Nat.le_of_ble_eq_true rfl, (r_X8_many v0 M) w hw⟩
    · cases h)
