/-! methods: X7_wipe, X7_zero, X7_constant, X7_root, X7_needRoot, X7_transform, X7_waysAnew, X7_of, small -/
def t_X7_wipe : List (Nat × Instr × Nat) := [(0, .aload_n 0, 1), (1, .getfield 41, 3), (4, .getfield 207, 3), (7, .istore_n 1, 1), (8, .aload_n 0, 1), (9, .getfield 41, 3), (12, .invokevirtual 67, 3), (15, .iload_n 1, 1), (16, .ireturn, 1)]
theorem tk_X7_wipe : ∀ x ∈ t_X7_wipe, decode cX7_wipe x.1 = .ok x.2 := by decide +kernel
def C_X7_wipe : Cfg := (t_X7_wipe, csF, fl_X7, [(67, 2, 3, 1, 0, fn_X3_clear)], in_X7, lg_X7, [], [], none, (some .int), 0)
set_option maxRecDepth 100000 in
theorem b_X7_wipe_0 : (fun (M : Mem) => run C_X7_wipe 9 (0, [some (.ref 0), none], [], M, 0)) = (fun (M : Mem) => some (.inr (.inl (some (.int (M.1 14 2))), (d_X3_clear M), 0))) := by rfl
def d_X7_wipe (M : Mem) : Option (Res × Mem) := some (.inl (some (.int (M.1 14 2))), (d_X3_clear M))
set_option maxHeartbeats 2000000 in
theorem r_X7_wipe (M : Mem) : RG C_X7_wipe (0, [some (.ref 0), none], [], M, 0) (d_X7_wipe M) (fun r => .inr r) := by
  unfold d_X7_wipe
  exact RG.fin rfl (Rend.run 9 (congrFun b_X7_wipe_0 M))
def fn_X7_wipe : Fn := fun av M => match av with
  | [.ref r0] => bif Nat.beq r0 0 then (d_X7_wipe M) else (none)
  | _ => none
theorem cfg_X7_wipe : CfgOK RX7 cX7_wipe (C_X7_wipe) 2 := ⟨tk_X7_wipe, csF_nd, flk_X7, (List.forall_mem_cons.mpr ⟨Or.inr ⟨yX3_clear, cX3_clear, 1, none, none, 1, ok_X3_clear, by decide, by decide, w_code_Sumsetry_Row_clear___V, w_initialized_Sumsetry_Row, ⟨by decide, by decide⟩, Or.inr (Or.inr ⟨rfl, rfl, show (parseMethodDescriptor yX3_clear.desc).map (fun d => d.parameters.length + 1) = some 1 from by decide +kernel, w_methodLink_Sumsetry_67, w_instanceMethod_Sumsetry_Row_clear___V, w_selects_Sumsetry_Row_clear___V, ⟨_, rfl, rfl⟩⟩)⟩, fun _ h => absurd h List.not_mem_nil⟩), ink_X7, lgk_X7, fun e h => absurd h List.not_mem_nil, (fun h hh => absurd hh List.not_mem_nil)⟩
theorem ok_X7_wipe : OkM csF yX7_wipe (Cond.code yX7_wipe cX7_wipe 2 (some .int)) 2 0 fn_X7_wipe :=
  OkM_of (own := RX7) (C := C_X7_wipe) (by decide +kernel) rfl (cfg_X7_wipe) rfl rfl rfl rfl (by
    intro av M o M' h
    unfold fn_X7_wipe at h
    split at h
    · rename_i r0
      rcases bif_cs h with ⟨hb, h⟩ | ⟨-, h⟩
      · skip
        have hr0 := hb
        obtain rfl := Nat.eq_of_beq_eq_true hr0
        exact ⟨rfl, Nat.le_of_ble_eq_true rfl, (r_X7_wipe M) (o, M') h⟩
      · cases h
    · cases h)
def t_X7_zero : List (Nat × Instr × Nat) := [(0, .aload_n 0, 1), (1, .getfield 41, 3), (4, .aload_n 0, 1), (5, .getfield 10, 3), (8, .invokevirtual 215, 3), (11, .ireturn, 1)]
theorem tk_X7_zero : ∀ x ∈ t_X7_zero, decode cX7_zero x.1 = .ok x.2 := by decide +kernel
def C_X7_zero : Cfg := (t_X7_zero, csF, fl_X7, [(215, 2, 3, 2, 0, fn_X3_leastZeroPart)], in_X7, lg_X7, [], [], none, (some .int), 0)
set_option maxRecDepth 100000 in
theorem b_X7_zero_0 : (fun (M : Mem) => run C_X7_zero 4 (0, [some (.ref 0)], [], M, 0)) = (fun (M : Mem) => some (.inl (8, [some (.ref 0)], [.ref 2, .ref 14], M, 0))) := by rfl
set_option maxRecDepth 100000 in
theorem b_X7_zero_1 : (fun (w2 : Int32) (M1 : Mem) => run C_X7_zero 1 (11, [some (.ref 0)], [.int w2], M1, 0)) = (fun (w2 : Int32) (M1 : Mem) => some (.inr (.inl (some (.int w2)), M1, 0))) := by rfl
def d_X7_zero (M : Mem) : Option (Res × Mem) := (onI (d_X3_leastZeroPart M) (fun w2 M1 => some (.inl (some (.int w2)), M1)) (fun r => some r))
set_option maxHeartbeats 2000000 in
theorem r_X7_zero (M : Mem) : RG C_X7_zero (0, [some (.ref 0)], [], M, 0) (d_X7_zero M) (fun r => .inr r) := by
  unfold d_X7_zero
  refine RG.st 4 (congrFun b_X7_zero_0 M) ?_
  refine RG.callI (fun w2 M1 h1 => RG.st 1 (run_callV (v := (some (.int w2))) rfl rfl rfl rfl rfl h1) ?_) (fun E M1 h1 => RG.fin rfl (Rend.run 1 (run_callVx rfl rfl rfl rfl rfl h1 rfl)))
  show RG C_X7_zero (11, [some (.ref 0)], [.int w2], M1, 0) _ _
  exact RG.fin rfl (Rend.run 1 (congrFun (congrFun b_X7_zero_1 w2) M1))
def fn_X7_zero : Fn := fun av M => match av with
  | [.ref r0] => bif Nat.beq r0 0 then (d_X7_zero M) else (none)
  | _ => none
theorem cfg_X7_zero : CfgOK RX7 cX7_zero (C_X7_zero) 4 := ⟨tk_X7_zero, csF_nd, flk_X7, (List.forall_mem_cons.mpr ⟨Or.inr ⟨yX3_leastZeroPart, cX3_leastZeroPart, 7, (some .int), none, 3, ok_X3_leastZeroPart, by decide, by decide, w_code_Sumsetry_Row_leastZeroPart__LSumsetry_Group__I, w_initialized_Sumsetry_Row, ⟨by decide, by decide⟩, Or.inr (Or.inr ⟨rfl, rfl, show (parseMethodDescriptor yX3_leastZeroPart.desc).map (fun d => d.parameters.length + 1) = some 2 from by decide +kernel, w_methodLink_Sumsetry_215, w_instanceMethod_Sumsetry_Row_leastZeroPart__LSumsetry_Group__I, w_selects_Sumsetry_Row_leastZeroPart__LSumsetry_Group__I, ⟨_, rfl, rfl⟩⟩)⟩, fun _ h => absurd h List.not_mem_nil⟩), ink_X7, lgk_X7, fun e h => absurd h List.not_mem_nil, (fun h hh => absurd hh List.not_mem_nil)⟩
theorem ok_X7_zero : OkM csF yX7_zero (Cond.code yX7_zero cX7_zero 1 (some .int)) 4 0 fn_X7_zero :=
  OkM_of (own := RX7) (C := C_X7_zero) (by decide +kernel) rfl (cfg_X7_zero) rfl rfl rfl rfl (by
    intro av M o M' h
    unfold fn_X7_zero at h
    split at h
    · rename_i r0
      rcases bif_cs h with ⟨hb, h⟩ | ⟨-, h⟩
      · skip
        have hr0 := hb
        obtain rfl := Nat.eq_of_beq_eq_true hr0
        exact ⟨rfl, Nat.le_of_ble_eq_true rfl, (r_X7_zero M) (o, M') h⟩
      · cases h
    · cases h)
def t_X7_constant : List (Nat × Instr × Nat) := [(0, .aload_n 0, 1), (1, .getfield 10, 3), (4, .getfield 73, 3), (7, .bipush 10, 2), (9, .if_icmp .le 13, 3), (12, .new 198, 3), (15, .dup, 1), (16, .ldc 200, 2), (18, .invokespecial 202, 3), (21, .athrow, 1), (22, .aload_n 0, 1), (23, .getfield 10, 3), (26, .invokevirtual 219, 3), (29, .ireturn, 1)]
theorem tk_X7_constant : ∀ x ∈ t_X7_constant, decode cX7_constant x.1 = .ok x.2 := by decide +kernel
def C_X7_constant : Cfg := (t_X7_constant, csF, fl_X7, [(219, 2, 1, 1, 0, fn_X1_zeroConstant)], in_X7, lg_X7, [(12, "java/lang/IllegalStateException", 198, 200, 202, "the group is too great")], [], none, (some .int), 1)
set_option maxRecDepth 100000 in
theorem b_X7_constant_0 : (fun (M : Mem) => run C_X7_constant 5 (0, [some (.ref 0)], [], M, 0)) = (fun (M : Mem) => some (.inl ((br (decide ((M.1 2 2) ≤ (10 : Int32))) 9 3 (13)), [some (.ref 0)], [], M, 0))) := by rfl
set_option maxRecDepth 100000 in
theorem b_X7_constant_1 : (fun (M : Mem) => run C_X7_constant 2 (22, [some (.ref 0)], [], M, 0)) = (fun (M : Mem) => some (.inl (26, [some (.ref 0)], [.ref 2], M, 0))) := by rfl
set_option maxRecDepth 100000 in
theorem b_X7_constant_2 : (fun (M : Mem) (w1 : Int32) => run C_X7_constant 1 (29, [some (.ref 0)], [.int w1], M, 0)) = (fun (M : Mem) (w1 : Int32) => some (.inr (.inl (some (.int w1)), M, 0))) := by rfl
set_option maxRecDepth 100000 in
theorem b_X7_constant_3 : (fun (M : Mem) => run C_X7_constant 1 (12, [some (.ref 0)], [], M, 0)) = (fun (M : Mem) => some (.inr (.inr "java/lang/IllegalStateException", M, 1))) := by rfl
def d_X7_constant (M : Mem) : Option (Res × Mem) := (if (M.1 2 2) ≤ (10 : Int32) then ((d_X1_zeroConstant M).bind fun w1 => some (.inl (some (.int w1)), M)) else some (.inr "java/lang/IllegalStateException", M))
set_option maxHeartbeats 2000000 in
theorem r_X7_constant (M : Mem) : RG C_X7_constant (0, [some (.ref 0)], [], M, 0) (d_X7_constant M) (fun r => .inr r) := by
  unfold d_X7_constant
  refine RG.st 5 (congrFun b_X7_constant_0 M) ?_
  refine RG.ite (fun h1 => RG.brT (q := 22) h1 rfl ?_) (fun h1 => RG.brF (q := 12) h1 rfl ?_)
  · refine RG.st 2 (congrFun b_X7_constant_1 M) ?_
    refine RG.bind (fun w1 h2 => RG.st 1 (run_callV (v := some (.int w1)) rfl rfl rfl rfl rfl (bindI h2)) ?_)
    show RG C_X7_constant (29, [some (.ref 0)], [.int w1], M, 0) _ _
    exact RG.fin rfl (Rend.run 1 (congrFun (congrFun b_X7_constant_2 M) w1))
  · exact RG.fin rfl (Rend.run 1 (congrFun b_X7_constant_3 M))
def fn_X7_constant : Fn := fun av M => match av with
  | [.ref r0] => bif Nat.beq r0 0 then (d_X7_constant M) else (none)
  | _ => none
theorem cfg_X7_constant : CfgOK RX7 cX7_constant (C_X7_constant) 6 := ⟨tk_X7_constant, csF_nd, flk_X7, (List.forall_mem_cons.mpr ⟨Or.inr ⟨yX1_zeroConstant, cX1_zeroConstant, 3, (some .int), none, 2, ok_X1_zeroConstant, by decide, by decide, w_code_Sumsetry_Group_zeroConstant___I, w_initialized_Sumsetry_Group, ⟨by decide, by decide⟩, Or.inr (Or.inr ⟨rfl, rfl, show (parseMethodDescriptor yX1_zeroConstant.desc).map (fun d => d.parameters.length + 1) = some 1 from by decide +kernel, w_methodLink_Sumsetry_219, w_instanceMethod_Sumsetry_Group_zeroConstant___I, w_selects_Sumsetry_Group_zeroConstant___I, ⟨_, rfl, rfl⟩⟩)⟩, fun _ h => absurd h List.not_mem_nil⟩), ink_X7, lgk_X7, by decide +kernel, (fun h hh => absurd hh List.not_mem_nil)⟩
theorem ok_X7_constant : OkM csF yX7_constant (Cond.code yX7_constant cX7_constant 1 (some .int)) 6 1 fn_X7_constant :=
  OkM_of (own := RX7) (C := C_X7_constant) (by decide +kernel) rfl (cfg_X7_constant) rfl rfl rfl rfl (by
    intro av M o M' h
    unfold fn_X7_constant at h
    split at h
    · rename_i r0
      rcases bif_cs h with ⟨hb, h⟩ | ⟨-, h⟩
      · skip
        have hr0 := hb
        obtain rfl := Nat.eq_of_beq_eq_true hr0
        exact ⟨rfl, Nat.le_of_ble_eq_true rfl, (r_X7_constant M) (o, M') h⟩
      · cases h
    · cases h)
def t_X7_root : List (Nat × Instr × Nat) := [(0, .iconst 2, 1), (1, .iload_n 1, 1), (2, .sipush 9999, 3), (5, .invokestatic 52, 3), (8, .ifCond .eq 36, 3), (11, .iconst 1, 1), (12, .iload_n 2, 1), (13, .iload_n 1, 1), (14, .iconst 1, 1), (15, .isub, 1), (16, .invokestatic 52, 3), (19, .ifCond .eq 25, 3), (22, .iload_n 1, 1), (23, .invokestatic 223, 3), (26, .ifCond .eq 18, 3), (29, .iload_n 1, 1), (30, .iload_n 2, 1), (31, .aload_n 0, 1), (32, .getfield 10, 3), (35, .getfield 227, 3), (38, .invokestatic 230, 3), (41, .ifCond .ne 13, 3), (44, .new 56, 3), (47, .dup, 1), (48, .ldc 233, 2), (50, .invokespecial 60, 3), (53, .athrow, 1), (54, .aload_n 0, 1), (55, .getfield 10, 3), (58, .getfield 235, 3), (61, .iconst 1, 1), (62, .if_icmp .eq 13, 3), (65, .new 198, 3), (68, .dup, 1), (69, .ldc 238, 2), (71, .invokespecial 202, 3), (74, .athrow, 1), (75, .aload_n 0, 1), (76, .getfield 48, 3), (79, .iload_n 1, 1), (80, .iload_n 2, 1), (81, .aload_n 0, 1), (82, .getfield 10, 3), (85, .getfield 227, 3), (88, .invokevirtual 240, 3), (91, .return_, 1)]
theorem tk_X7_root : ∀ x ∈ t_X7_root, decode cX7_root x.1 = .ok x.2 := by decide +kernel
def C_X7_root : Cfg := (t_X7_root, csF, fl_X7, [(52, 0, 5, 3, 0, fn_X7_isFrom), (223, 0, 4, 1, 0, fn_X6_isPrime), (230, 0, 4, 3, 0, fn_X6_isRoot), (240, 2, 4, 4, 0, fn_X6_begin)], in_X7, lg_X7, [(44, "java/lang/IllegalArgumentException", 56, 233, 60, "no prime, or no root of it"), (65, "java/lang/IllegalStateException", 198, 238, 202, "m is not 1")], [], none, none, 1)
set_option maxRecDepth 100000 in
theorem b_X7_root_0 : (fun (v1 : Int32) (v2 : Int32) (M : Mem) => run C_X7_root 5 (0, [some (.ref 0), some (.int v1), some (.int v2)], [], M, 0)) = (fun (v1 : Int32) (v2 : Int32) (M : Mem) => some (.inl ((br (decide ((d_X7_isFrom (2 : Int32) v1 (9999 : Int32)) = 0)) 8 3 (36)), [some (.ref 0), some (.int v1), some (.int v2)], [], M, 0))) := by rfl
set_option maxRecDepth 100000 in
theorem b_X7_root_1 : (fun (v1 : Int32) (v2 : Int32) (M : Mem) => run C_X7_root 1 (44, [some (.ref 0), some (.int v1), some (.int v2)], [], M, 0)) = (fun (v1 : Int32) (v2 : Int32) (M : Mem) => some (.inr (.inr "java/lang/IllegalArgumentException", M, 1))) := by rfl
set_option maxRecDepth 100000 in
theorem b_X7_root_2 : (fun (v1 : Int32) (v2 : Int32) (M : Mem) => run C_X7_root 7 (11, [some (.ref 0), some (.int v1), some (.int v2)], [], M, 0)) = (fun (v1 : Int32) (v2 : Int32) (M : Mem) => some (.inl ((br (decide ((d_X7_isFrom (1 : Int32) v2 (v1 - (1 : Int32))) = 0)) 19 3 (25)), [some (.ref 0), some (.int v1), some (.int v2)], [], M, 0))) := by rfl
set_option maxRecDepth 100000 in
theorem b_X7_root_3 : (fun (v1 : Int32) (v2 : Int32) (M : Mem) => run C_X7_root 1 (44, [some (.ref 0), some (.int v1), some (.int v2)], [], M, 0)) = (fun (v1 : Int32) (v2 : Int32) (M : Mem) => some (.inr (.inr "java/lang/IllegalArgumentException", M, 1))) := by rfl
set_option maxRecDepth 100000 in
theorem b_X7_root_4 : (fun (v1 : Int32) (v2 : Int32) (M : Mem) => run C_X7_root 1 (22, [some (.ref 0), some (.int v1), some (.int v2)], [], M, 0)) = (fun (v1 : Int32) (v2 : Int32) (M : Mem) => some (.inl (23, [some (.ref 0), some (.int v1), some (.int v2)], [.int v1], M, 0))) := by rfl
set_option maxRecDepth 100000 in
theorem b_X7_root_5 : (fun (v1 : Int32) (v2 : Int32) (M : Mem) (w1 : Int32) => run C_X7_root 1 (26, [some (.ref 0), some (.int v1), some (.int v2)], [.int w1], M, 0)) = (fun (v1 : Int32) (v2 : Int32) (M : Mem) (w1 : Int32) => some (.inl ((br (decide (w1 = 0)) 26 3 (18)), [some (.ref 0), some (.int v1), some (.int v2)], [], M, 0))) := by rfl
set_option maxRecDepth 100000 in
theorem b_X7_root_6 : (fun (v1 : Int32) (v2 : Int32) (M : Mem) => run C_X7_root 1 (44, [some (.ref 0), some (.int v1), some (.int v2)], [], M, 0)) = (fun (v1 : Int32) (v2 : Int32) (M : Mem) => some (.inr (.inr "java/lang/IllegalArgumentException", M, 1))) := by rfl
set_option maxRecDepth 100000 in
theorem b_X7_root_7 : (fun (v1 : Int32) (v2 : Int32) (M : Mem) => run C_X7_root 5 (29, [some (.ref 0), some (.int v1), some (.int v2)], [], M, 0)) = (fun (v1 : Int32) (v2 : Int32) (M : Mem) => some (.inl (38, [some (.ref 0), some (.int v1), some (.int v2)], [.int (M.1 2 1), .int v2, .int v1], M, 0))) := by rfl
set_option maxRecDepth 100000 in
theorem b_X7_root_8 : (fun (v1 : Int32) (v2 : Int32) (M : Mem) (w2 : Int32) => run C_X7_root 1 (41, [some (.ref 0), some (.int v1), some (.int v2)], [.int w2], M, 0)) = (fun (v1 : Int32) (v2 : Int32) (M : Mem) (w2 : Int32) => some (.inl ((br (!decide (w2 = 0)) 41 3 (13)), [some (.ref 0), some (.int v1), some (.int v2)], [], M, 0))) := by rfl
set_option maxRecDepth 100000 in
theorem b_X7_root_9 : (fun (v1 : Int32) (v2 : Int32) (M : Mem) => run C_X7_root 1 (44, [some (.ref 0), some (.int v1), some (.int v2)], [], M, 0)) = (fun (v1 : Int32) (v2 : Int32) (M : Mem) => some (.inr (.inr "java/lang/IllegalArgumentException", M, 1))) := by rfl
set_option maxRecDepth 100000 in
theorem b_X7_root_10 : (fun (v1 : Int32) (v2 : Int32) (M : Mem) => run C_X7_root 5 (54, [some (.ref 0), some (.int v1), some (.int v2)], [], M, 0)) = (fun (v1 : Int32) (v2 : Int32) (M : Mem) => some (.inl ((br (decide ((M.1 2 0) = (1 : Int32))) 62 3 (13)), [some (.ref 0), some (.int v1), some (.int v2)], [], M, 0))) := by rfl
set_option maxRecDepth 100000 in
theorem b_X7_root_11 : (fun (v1 : Int32) (v2 : Int32) (M : Mem) => run C_X7_root 7 (75, [some (.ref 0), some (.int v1), some (.int v2)], [], M, 0)) = (fun (v1 : Int32) (v2 : Int32) (M : Mem) => some (.inl (88, [some (.ref 0), some (.int v1), some (.int v2)], [.int (M.1 2 1), .int v2, .int v1, .ref 17], M, 0))) := by rfl
set_option maxRecDepth 100000 in
theorem b_X7_root_12 : (fun (v1 : Int32) (v2 : Int32) (M3 : Mem) => run C_X7_root 1 (91, [some (.ref 0), some (.int v1), some (.int v2)], [], M3, 0)) = (fun (v1 : Int32) (v2 : Int32) (M3 : Mem) => some (.inr (.inl none, M3, 0))) := by rfl
set_option maxRecDepth 100000 in
theorem b_X7_root_13 : (fun (v1 : Int32) (v2 : Int32) (M : Mem) => run C_X7_root 1 (65, [some (.ref 0), some (.int v1), some (.int v2)], [], M, 0)) = (fun (v1 : Int32) (v2 : Int32) (M : Mem) => some (.inr (.inr "java/lang/IllegalStateException", M, 1))) := by rfl
def d_X7_root (v1 : Int32) (v2 : Int32) (M : Mem) : Option (Res × Mem) := (if (d_X7_isFrom (2 : Int32) v1 (9999 : Int32)) = 0 then some (.inr "java/lang/IllegalArgumentException", M) else (if (d_X7_isFrom (1 : Int32) v2 (v1 - (1 : Int32))) = 0 then some (.inr "java/lang/IllegalArgumentException", M) else ((d_X6_isPrime v1).bind fun w1 => (if w1 = 0 then some (.inr "java/lang/IllegalArgumentException", M) else ((d_X6_isRoot v1 v2 (M.1 2 1)).bind fun w2 => (if w2 = 0 then some (.inr "java/lang/IllegalArgumentException", M) else (if (M.1 2 0) = (1 : Int32) then (onV (d_X6_begin v1 v2 (M.1 2 1) M) (fun M3 => some (.inl none, M3)) (fun r => some r)) else some (.inr "java/lang/IllegalStateException", M))))))))
set_option maxHeartbeats 2000000 in
theorem r_X7_root (v1 : Int32) (v2 : Int32) (M : Mem) : RG C_X7_root (0, [some (.ref 0), some (.int v1), some (.int v2)], [], M, 0) (d_X7_root v1 v2 M) (fun r => .inr r) := by
  unfold d_X7_root
  refine RG.st 5 (congrFun (congrFun (congrFun b_X7_root_0 v1) v2) M) ?_
  refine RG.ite (fun h1 => RG.brT (q := 44) h1 rfl ?_) (fun h1 => RG.brF (q := 11) h1 rfl ?_)
  · exact RG.fin rfl (Rend.run 1 (congrFun (congrFun (congrFun b_X7_root_1 v1) v2) M))
  · refine RG.st 7 (congrFun (congrFun (congrFun b_X7_root_2 v1) v2) M) ?_
    refine RG.ite (fun h2 => RG.brT (q := 44) h2 rfl ?_) (fun h2 => RG.brF (q := 22) h2 rfl ?_)
    · exact RG.fin rfl (Rend.run 1 (congrFun (congrFun (congrFun b_X7_root_3 v1) v2) M))
    · refine RG.st 1 (congrFun (congrFun (congrFun b_X7_root_4 v1) v2) M) ?_
      refine RG.bind (fun w1 h3 => RG.st 1 (run_callS (v := some (.int w1)) rfl rfl rfl rfl (bindI h3)) ?_)
      show RG C_X7_root (26, [some (.ref 0), some (.int v1), some (.int v2)], [.int w1], M, 0) _ _
      refine RG.st 1 (congrFun (congrFun (congrFun (congrFun b_X7_root_5 v1) v2) M) w1) ?_
      refine RG.ite (fun h4 => RG.brT (q := 44) h4 rfl ?_) (fun h4 => RG.brF (q := 29) h4 rfl ?_)
      · exact RG.fin rfl (Rend.run 1 (congrFun (congrFun (congrFun b_X7_root_6 v1) v2) M))
      · refine RG.st 5 (congrFun (congrFun (congrFun b_X7_root_7 v1) v2) M) ?_
        refine RG.bind (fun w2 h5 => RG.st 1 (run_callS (v := some (.int w2)) rfl rfl rfl rfl (bindI h5)) ?_)
        show RG C_X7_root (41, [some (.ref 0), some (.int v1), some (.int v2)], [.int w2], M, 0) _ _
        refine RG.st 1 (congrFun (congrFun (congrFun (congrFun b_X7_root_8 v1) v2) M) w2) ?_
        refine RG.ite (fun h6 => RG.brNF (q := 44) h6 rfl ?_) (fun h6 => RG.brNT (q := 54) h6 rfl ?_)
        · exact RG.fin rfl (Rend.run 1 (congrFun (congrFun (congrFun b_X7_root_9 v1) v2) M))
        · refine RG.st 5 (congrFun (congrFun (congrFun b_X7_root_10 v1) v2) M) ?_
          refine RG.ite (fun h7 => RG.brT (q := 75) h7 rfl ?_) (fun h7 => RG.brF (q := 65) h7 rfl ?_)
          · refine RG.st 7 (congrFun (congrFun (congrFun b_X7_root_11 v1) v2) M) ?_
            refine RG.callV (fun M3 h8 => RG.st 1 (run_callV (v := none) rfl rfl rfl rfl rfl h8) ?_) (fun E M3 h8 => RG.fin rfl (Rend.run 1 (run_callVx rfl rfl rfl rfl rfl h8 rfl)))
            show RG C_X7_root (91, [some (.ref 0), some (.int v1), some (.int v2)], [], M3, 0) _ _
            exact RG.fin rfl (Rend.run 1 (congrFun (congrFun (congrFun b_X7_root_12 v1) v2) M3))
          · exact RG.fin rfl (Rend.run 1 (congrFun (congrFun (congrFun b_X7_root_13 v1) v2) M))
def fn_X7_root : Fn := fun av M => match av with
  | [.ref r0, .int v1, .int v2] => bif Nat.beq r0 0 then (d_X7_root v1 v2 M) else (none)
  | _ => none
theorem cfg_X7_root : CfgOK RX7 cX7_root (C_X7_root) 6 := ⟨tk_X7_root, csF_nd, flk_X7, (List.forall_mem_cons.mpr ⟨Or.inr ⟨yX7_isFrom, cX7_isFrom, 3, (some .boolean), none, 1, ok_X7_isFrom, by decide, by decide, w_code_Sumsetry_isFrom__III_Z, w_initialized_Sumsetry, ⟨by decide, by decide⟩, Or.inl ⟨rfl, show (parseMethodDescriptor yX7_isFrom.desc).map (fun d => d.parameters.length) = some 3 from by decide +kernel, w_methodLink_Sumsetry_52, w_static_Sumsetry_isFrom__III_Z⟩⟩,
    List.forall_mem_cons.mpr ⟨Or.inr ⟨yX6_isPrime, cX6_isPrime, 2, (some .boolean), none, 2, ok_X6_isPrime, by decide, by decide, w_code_Sumsetry_Transforms_isPrime__I_Z, w_initialized_Sumsetry_Transforms, ⟨by decide, by decide⟩, Or.inl ⟨rfl, show (parseMethodDescriptor yX6_isPrime.desc).map (fun d => d.parameters.length) = some 1 from by decide +kernel, w_methodLink_Sumsetry_223, w_static_Sumsetry_Transforms_isPrime__I_Z⟩⟩,
    List.forall_mem_cons.mpr ⟨Or.inr ⟨yX6_isRoot, cX6_isRoot, 5, (some .boolean), none, 2, ok_X6_isRoot, by decide, by decide, w_code_Sumsetry_Transforms_isRoot__III_Z, w_initialized_Sumsetry_Transforms, ⟨by decide, by decide⟩, Or.inl ⟨rfl, show (parseMethodDescriptor yX6_isRoot.desc).map (fun d => d.parameters.length) = some 3 from by decide +kernel, w_methodLink_Sumsetry_230, w_static_Sumsetry_Transforms_isRoot__III_Z⟩⟩,
    List.forall_mem_cons.mpr ⟨Or.inr ⟨yX6_begin, cX6_begin, 6, none, none, 2, ok_X6_begin, by decide, by decide, w_code_Sumsetry_Transforms_begin__III_V, w_initialized_Sumsetry_Transforms, ⟨by decide, by decide⟩, Or.inr (Or.inr ⟨rfl, rfl, show (parseMethodDescriptor yX6_begin.desc).map (fun d => d.parameters.length + 1) = some 4 from by decide +kernel, w_methodLink_Sumsetry_240, w_instanceMethod_Sumsetry_Transforms_begin__III_V, w_selects_Sumsetry_Transforms_begin__III_V, ⟨_, rfl, rfl⟩⟩)⟩, fun _ h => absurd h List.not_mem_nil⟩⟩⟩⟩), ink_X7, lgk_X7, by decide +kernel, (fun h hh => absurd hh List.not_mem_nil)⟩
theorem ok_X7_root : OkM csF yX7_root (Cond.code yX7_root cX7_root 3 none) 6 1 fn_X7_root :=
  OkM_of (own := RX7) (C := C_X7_root) (by decide +kernel) rfl (cfg_X7_root) rfl rfl rfl rfl (by
    intro av M o M' h
    unfold fn_X7_root at h
    split at h
    · rename_i r0 v1 v2
      rcases bif_cs h with ⟨hb, h⟩ | ⟨-, h⟩
      · skip
        have hr0 := hb
        obtain rfl := Nat.eq_of_beq_eq_true hr0
        exact ⟨rfl, Nat.le_of_ble_eq_true rfl, (r_X7_root v1 v2 M) (o, M') h⟩
      · cases h
    · cases h)
def t_X7_needRoot : List (Nat × Instr × Nat) := [(0, .aload_n 0, 1), (1, .getfield 48, 3), (4, .getfield 251, 3), (7, .ifCond .ne 14, 3), (10, .new 198, 3), (13, .dup, 1), (14, .ldc_w 271, 3), (17, .invokespecial 202, 3), (20, .athrow, 1), (21, .return_, 1)]
theorem tk_X7_needRoot : ∀ x ∈ t_X7_needRoot, decode cX7_needRoot x.1 = .ok x.2 := by decide +kernel
def C_X7_needRoot : Cfg := (t_X7_needRoot, csF, fl_X7, [], in_X7, lg_X7, [(10, "java/lang/IllegalStateException", 198, 271, 202, "no root was told")], [], none, none, 1)
set_option maxRecDepth 100000 in
theorem b_X7_needRoot_0 : (fun (M : Mem) => run C_X7_needRoot 4 (0, [some (.ref 0)], [], M, 0)) = (fun (M : Mem) => some (.inl ((br (!decide ((M.1 17 0) = 0)) 7 3 (14)), [some (.ref 0)], [], M, 0))) := by rfl
set_option maxRecDepth 100000 in
theorem b_X7_needRoot_1 : (fun (M : Mem) => run C_X7_needRoot 1 (10, [some (.ref 0)], [], M, 0)) = (fun (M : Mem) => some (.inr (.inr "java/lang/IllegalStateException", M, 1))) := by rfl
set_option maxRecDepth 100000 in
theorem b_X7_needRoot_2 : (fun (M : Mem) => run C_X7_needRoot 1 (21, [some (.ref 0)], [], M, 0)) = (fun (M : Mem) => some (.inr (.inl none, M, 0))) := by rfl
def d_X7_needRoot (M : Mem) : Option (Res × Mem) := (if (M.1 17 0) = 0 then some (.inr "java/lang/IllegalStateException", M) else some (.inl none, M))
set_option maxHeartbeats 2000000 in
theorem r_X7_needRoot (M : Mem) : RG C_X7_needRoot (0, [some (.ref 0)], [], M, 0) (d_X7_needRoot M) (fun r => .inr r) := by
  unfold d_X7_needRoot
  refine RG.st 4 (congrFun b_X7_needRoot_0 M) ?_
  refine RG.ite (fun h1 => RG.brNF (q := 10) h1 rfl ?_) (fun h1 => RG.brNT (q := 21) h1 rfl ?_)
  · exact RG.fin rfl (Rend.run 1 (congrFun b_X7_needRoot_1 M))
  · exact RG.fin rfl (Rend.run 1 (congrFun b_X7_needRoot_2 M))
def fn_X7_needRoot : Fn := fun av M => match av with
  | [.ref r0] => bif Nat.beq r0 0 then (d_X7_needRoot M) else (none)
  | _ => none
theorem cfg_X7_needRoot : CfgOK RX7 cX7_needRoot (C_X7_needRoot) 6 := ⟨tk_X7_needRoot, csF_nd, flk_X7, (fun e h => absurd h List.not_mem_nil), ink_X7, lgk_X7, by decide +kernel, (fun h hh => absurd hh List.not_mem_nil)⟩
theorem ok_X7_needRoot : OkM csF yX7_needRoot (Cond.code yX7_needRoot cX7_needRoot 1 none) 6 1 fn_X7_needRoot :=
  OkM_of (own := RX7) (C := C_X7_needRoot) (by decide +kernel) rfl (cfg_X7_needRoot) rfl rfl rfl rfl (by
    intro av M o M' h
    unfold fn_X7_needRoot at h
    split at h
    · rename_i r0
      rcases bif_cs h with ⟨hb, h⟩ | ⟨-, h⟩
      · skip
        have hr0 := hb
        obtain rfl := Nat.eq_of_beq_eq_true hr0
        exact ⟨rfl, Nat.le_of_ble_eq_true rfl, (r_X7_needRoot M) (o, M') h⟩
      · cases h
    · cases h)
def t_X7_transform : List (Nat × Instr × Nat) := [(0, .aload_n 0, 1), (1, .iload_n 1, 1), (2, .invokevirtual 98, 3), (5, .iconst 0, 1), (6, .iload_n 2, 1), (7, .aload_n 0, 1), (8, .getfield 10, 3), (11, .getfield 227, 3), (14, .iconst 1, 1), (15, .isub, 1), (16, .invokestatic 52, 3), (19, .ifCond .ne 13, 3), (22, .new 56, 3), (25, .dup, 1), (26, .ldc 242, 2), (28, .invokespecial 60, 3), (31, .athrow, 1), (32, .aload_n 0, 1), (33, .invokevirtual 244, 3), (36, .aload_n 0, 1), (37, .getfield 48, 3), (40, .iload_n 2, 1), (41, .aload_n 0, 1), (42, .iload_n 1, 1), (43, .invokevirtual 103, 3), (46, .invokevirtual 247, 3), (49, .ireturn, 1)]
theorem tk_X7_transform : ∀ x ∈ t_X7_transform, decode cX7_transform x.1 = .ok x.2 := by decide +kernel
def C_X7_transform : Cfg := (t_X7_transform, csF, fl_X7, [(52, 0, 5, 3, 0, fn_X7_isFrom), (98, 2, 5, 2, 1, fn_X7_needSet), (103, 2, 5, 2, 0, fn_X7_bitsOf), (244, 2, 5, 1, 1, fn_X7_needRoot), (247, 2, 4, 3, 0, fn_X6_valueAt)], in_X7, lg_X7, [(22, "java/lang/IllegalArgumentException", 56, 242, 60, "k out of range")], [], none, (some .int), 2)
set_option maxRecDepth 100000 in
theorem b_X7_transform_0 : (fun (v1 : Int32) (v2 : Int32) (M : Mem) => run C_X7_transform 2 (0, [some (.ref 0), some (.int v1), some (.int v2)], [], M, 0)) = (fun (v1 : Int32) (v2 : Int32) (M : Mem) => some (.inl (2, [some (.ref 0), some (.int v1), some (.int v2)], [.int v1, .ref 0], M, 0))) := by rfl
set_option maxRecDepth 100000 in
theorem b_X7_transform_1 : (fun (v1 : Int32) (v2 : Int32) (M1 : Mem) => run C_X7_transform 9 (5, [some (.ref 0), some (.int v1), some (.int v2)], [], M1, 1)) = (fun (v1 : Int32) (v2 : Int32) (M1 : Mem) => some (.inl ((br (!decide ((d_X7_isFrom (0 : Int32) v2 ((M1.1 2 1) - (1 : Int32))) = 0)) 19 3 (13)), [some (.ref 0), some (.int v1), some (.int v2)], [], M1, 1))) := by rfl
set_option maxRecDepth 100000 in
theorem b_X7_transform_2 : (fun (v1 : Int32) (v2 : Int32) (M1 : Mem) => run C_X7_transform 1 (22, [some (.ref 0), some (.int v1), some (.int v2)], [], M1, 1)) = (fun (v1 : Int32) (v2 : Int32) (M1 : Mem) => some (.inr (.inr "java/lang/IllegalArgumentException", M1, 2))) := by rfl
set_option maxRecDepth 100000 in
theorem b_X7_transform_3 : (fun (v1 : Int32) (v2 : Int32) (M1 : Mem) => run C_X7_transform 1 (32, [some (.ref 0), some (.int v1), some (.int v2)], [], M1, 1)) = (fun (v1 : Int32) (v2 : Int32) (M1 : Mem) => some (.inl (33, [some (.ref 0), some (.int v1), some (.int v2)], [.ref 0], M1, 1))) := by rfl
set_option maxRecDepth 100000 in
theorem b_X7_transform_4 : (fun (v1 : Int32) (v2 : Int32) (M2 : Mem) => run C_X7_transform 6 (36, [some (.ref 0), some (.int v1), some (.int v2)], [], M2, 2)) = (fun (v1 : Int32) (v2 : Int32) (M2 : Mem) => some (.inl (46, [some (.ref 0), some (.int v1), some (.int v2)], [.long (d_X7_bitsOf v1 M2), .int v2, .ref 17], M2, 2))) := by rfl
set_option maxRecDepth 100000 in
theorem b_X7_transform_5 : (fun (v1 : Int32) (v2 : Int32) (M2 : Mem) (w3 : Int32) => run C_X7_transform 1 (49, [some (.ref 0), some (.int v1), some (.int v2)], [.int w3], M2, 2)) = (fun (v1 : Int32) (v2 : Int32) (M2 : Mem) (w3 : Int32) => some (.inr (.inl (some (.int w3)), M2, 2))) := by rfl
def d_X7_transform (v1 : Int32) (v2 : Int32) (M : Mem) : Option (Res × Mem) := (onV (d_X7_needSet v1 M) (fun M1 => (if (d_X7_isFrom (0 : Int32) v2 ((M1.1 2 1) - (1 : Int32))) = 0 then some (.inr "java/lang/IllegalArgumentException", M1) else (onV (d_X7_needRoot M1) (fun M2 => ((d_X6_valueAt v2 (d_X7_bitsOf v1 M2) M2).bind fun w3 => some (.inl (some (.int w3)), M2))) (fun r => some r)))) (fun r => some r))
set_option maxHeartbeats 2000000 in
theorem r_X7_transform (v1 : Int32) (v2 : Int32) (M : Mem) : RG C_X7_transform (0, [some (.ref 0), some (.int v1), some (.int v2)], [], M, 0) (d_X7_transform v1 v2 M) (fun r => .inr r) := by
  unfold d_X7_transform
  refine RG.st 2 (congrFun (congrFun (congrFun b_X7_transform_0 v1) v2) M) ?_
  refine RG.callV (fun M1 h1 => RG.st 1 (run_callV (v := none) rfl rfl rfl rfl rfl h1) ?_) (fun E M1 h1 => RG.fin rfl (Rend.run 1 (run_callVx rfl rfl rfl rfl rfl h1 rfl)))
  show RG C_X7_transform (5, [some (.ref 0), some (.int v1), some (.int v2)], [], M1, 1) _ _
  refine RG.st 9 (congrFun (congrFun (congrFun b_X7_transform_1 v1) v2) M1) ?_
  refine RG.ite (fun h2 => RG.brNF (q := 22) h2 rfl ?_) (fun h2 => RG.brNT (q := 32) h2 rfl ?_)
  · exact RG.fin rfl (Rend.run 1 (congrFun (congrFun (congrFun b_X7_transform_2 v1) v2) M1))
  · refine RG.st 1 (congrFun (congrFun (congrFun b_X7_transform_3 v1) v2) M1) ?_
    refine RG.callV (fun M2 h3 => RG.st 1 (run_callV (v := none) rfl rfl rfl rfl rfl h3) ?_) (fun E M2 h3 => RG.fin rfl (Rend.run 1 (run_callVx rfl rfl rfl rfl rfl h3 rfl)))
    show RG C_X7_transform (36, [some (.ref 0), some (.int v1), some (.int v2)], [], M2, 2) _ _
    refine RG.st 6 (congrFun (congrFun (congrFun b_X7_transform_4 v1) v2) M2) ?_
    refine RG.bind (fun w3 h4 => RG.st 1 (run_callV (v := some (.int w3)) rfl rfl rfl rfl rfl (bindI h4)) ?_)
    show RG C_X7_transform (49, [some (.ref 0), some (.int v1), some (.int v2)], [.int w3], M2, 2) _ _
    exact RG.fin rfl (Rend.run 1 (congrFun (congrFun (congrFun (congrFun b_X7_transform_5 v1) v2) M2) w3))
def fn_X7_transform : Fn := fun av M => match av with
  | [.ref r0, .int v1, .int v2] => bif Nat.beq r0 0 then (d_X7_transform v1 v2 M) else (none)
  | _ => none
theorem cfg_X7_transform : CfgOK RX7 cX7_transform (C_X7_transform) 7 := ⟨tk_X7_transform, csF_nd, flk_X7, (List.forall_mem_cons.mpr ⟨Or.inr ⟨yX7_isFrom, cX7_isFrom, 3, (some .boolean), none, 1, ok_X7_isFrom, by decide, by decide, w_code_Sumsetry_isFrom__III_Z, w_initialized_Sumsetry, ⟨by decide, by decide⟩, Or.inl ⟨rfl, show (parseMethodDescriptor yX7_isFrom.desc).map (fun d => d.parameters.length) = some 3 from by decide +kernel, w_methodLink_Sumsetry_52, w_static_Sumsetry_isFrom__III_Z⟩⟩,
    List.forall_mem_cons.mpr ⟨Or.inr ⟨yX7_needSet, cX7_needSet, 2, none, none, 6, ok_X7_needSet, by decide, by decide, w_code_Sumsetry_needSet__I_V, w_initialized_Sumsetry, ⟨by decide, by decide⟩, Or.inr (Or.inr ⟨rfl, rfl, show (parseMethodDescriptor yX7_needSet.desc).map (fun d => d.parameters.length + 1) = some 2 from by decide +kernel, w_methodLink_Sumsetry_98, w_instanceMethod_Sumsetry_needSet__I_V, w_selects_Sumsetry_needSet__I_V, ⟨_, rfl, rfl⟩⟩)⟩,
    List.forall_mem_cons.mpr ⟨Or.inr ⟨yX7_bitsOf, cX7_bitsOf, 2, (some .long), none, 1, ok_X7_bitsOf, by decide, by decide, w_code_Sumsetry_bitsOf__I_J, w_initialized_Sumsetry, ⟨by decide, by decide⟩, Or.inr (Or.inr ⟨rfl, rfl, show (parseMethodDescriptor yX7_bitsOf.desc).map (fun d => d.parameters.length + 1) = some 2 from by decide +kernel, w_methodLink_Sumsetry_103, w_instanceMethod_Sumsetry_bitsOf__I_J, w_selects_Sumsetry_bitsOf__I_J, ⟨_, rfl, rfl⟩⟩)⟩,
    List.forall_mem_cons.mpr ⟨Or.inr ⟨yX7_needRoot, cX7_needRoot, 1, none, none, 6, ok_X7_needRoot, by decide, by decide, w_code_Sumsetry_needRoot___V, w_initialized_Sumsetry, ⟨by decide, by decide⟩, Or.inr (Or.inr ⟨rfl, rfl, show (parseMethodDescriptor yX7_needRoot.desc).map (fun d => d.parameters.length + 1) = some 1 from by decide +kernel, w_methodLink_Sumsetry_244, w_instanceMethod_Sumsetry_needRoot___V, w_selects_Sumsetry_needRoot___V, ⟨_, rfl, rfl⟩⟩)⟩,
    List.forall_mem_cons.mpr ⟨Or.inr ⟨yX6_valueAt, cX6_valueAt, 6, (some .int), none, 3, ok_X6_valueAt, by decide, by decide, w_code_Sumsetry_Transforms_valueAt__IJ_I, w_initialized_Sumsetry_Transforms, ⟨by decide, by decide⟩, Or.inr (Or.inr ⟨rfl, rfl, show (parseMethodDescriptor yX6_valueAt.desc).map (fun d => d.parameters.length + 1) = some 3 from by decide +kernel, w_methodLink_Sumsetry_247, w_instanceMethod_Sumsetry_Transforms_valueAt__IJ_I, w_selects_Sumsetry_Transforms_valueAt__IJ_I, ⟨_, rfl, rfl⟩⟩)⟩, fun _ h => absurd h List.not_mem_nil⟩⟩⟩⟩⟩), ink_X7, lgk_X7, by decide +kernel, (fun h hh => absurd hh List.not_mem_nil)⟩
theorem ok_X7_transform : OkM csF yX7_transform (Cond.code yX7_transform cX7_transform 3 (some .int)) 7 2 fn_X7_transform :=
  OkM_of (own := RX7) (C := C_X7_transform) (by decide +kernel) rfl (cfg_X7_transform) rfl rfl rfl rfl (by
    intro av M o M' h
    unfold fn_X7_transform at h
    split at h
    · rename_i r0 v1 v2
      rcases bif_cs h with ⟨hb, h⟩ | ⟨-, h⟩
      · skip
        have hr0 := hb
        obtain rfl := Nat.eq_of_beq_eq_true hr0
        exact ⟨rfl, Nat.le_of_ble_eq_true rfl, (r_X7_transform v1 v2 M) (o, M') h⟩
      · cases h
    · cases h)
def t_X7_waysAnew : List (Nat × Instr × Nat) := [(0, .aload_n 0, 1), (1, .iload_n 1, 1), (2, .invokevirtual 98, 3), (5, .aload_n 0, 1), (6, .iload_n 2, 1), (7, .invokevirtual 98, 3), (10, .aload_n 0, 1), (11, .iload_n 3, 1), (12, .invokevirtual 76, 3), (15, .aload_n 0, 1), (16, .invokevirtual 244, 3), (19, .aload_n 0, 1), (20, .getfield 48, 3), (23, .iload_n 3, 1), (24, .aload_n 0, 1), (25, .iload_n 1, 1), (26, .invokevirtual 103, 3), (29, .aload_n 0, 1), (30, .iload_n 2, 1), (31, .invokevirtual 103, 3), (34, .invokevirtual 250, 3), (37, .ireturn, 1)]
theorem tk_X7_waysAnew : ∀ x ∈ t_X7_waysAnew, decode cX7_waysAnew x.1 = .ok x.2 := by decide +kernel
def C_X7_waysAnew : Cfg := (t_X7_waysAnew, csF, fl_X7, [(76, 2, 5, 2, 1, fn_X7_needElement), (98, 2, 5, 2, 1, fn_X7_needSet), (103, 2, 5, 2, 0, fn_X7_bitsOf), (244, 2, 5, 1, 1, fn_X7_needRoot), (250, 2, 4, 4, 0, fn_X6_waysTo)], in_X7, lg_X7, [], [], none, (some .int), 4)
set_option maxRecDepth 100000 in
theorem b_X7_waysAnew_0 : (fun (v1 : Int32) (v2 : Int32) (v3 : Int32) (M : Mem) => run C_X7_waysAnew 2 (0, [some (.ref 0), some (.int v1), some (.int v2), some (.int v3)], [], M, 0)) = (fun (v1 : Int32) (v2 : Int32) (v3 : Int32) (M : Mem) => some (.inl (2, [some (.ref 0), some (.int v1), some (.int v2), some (.int v3)], [.int v1, .ref 0], M, 0))) := by rfl
set_option maxRecDepth 100000 in
theorem b_X7_waysAnew_1 : (fun (v1 : Int32) (v2 : Int32) (v3 : Int32) (M1 : Mem) => run C_X7_waysAnew 2 (5, [some (.ref 0), some (.int v1), some (.int v2), some (.int v3)], [], M1, 1)) = (fun (v1 : Int32) (v2 : Int32) (v3 : Int32) (M1 : Mem) => some (.inl (7, [some (.ref 0), some (.int v1), some (.int v2), some (.int v3)], [.int v2, .ref 0], M1, 1))) := by rfl
set_option maxRecDepth 100000 in
theorem b_X7_waysAnew_2 : (fun (v1 : Int32) (v2 : Int32) (v3 : Int32) (M2 : Mem) => run C_X7_waysAnew 2 (10, [some (.ref 0), some (.int v1), some (.int v2), some (.int v3)], [], M2, 2)) = (fun (v1 : Int32) (v2 : Int32) (v3 : Int32) (M2 : Mem) => some (.inl (12, [some (.ref 0), some (.int v1), some (.int v2), some (.int v3)], [.int v3, .ref 0], M2, 2))) := by rfl
set_option maxRecDepth 100000 in
theorem b_X7_waysAnew_3 : (fun (v1 : Int32) (v2 : Int32) (v3 : Int32) (M3 : Mem) => run C_X7_waysAnew 1 (15, [some (.ref 0), some (.int v1), some (.int v2), some (.int v3)], [], M3, 3)) = (fun (v1 : Int32) (v2 : Int32) (v3 : Int32) (M3 : Mem) => some (.inl (16, [some (.ref 0), some (.int v1), some (.int v2), some (.int v3)], [.ref 0], M3, 3))) := by rfl
set_option maxRecDepth 100000 in
theorem b_X7_waysAnew_4 : (fun (v1 : Int32) (v2 : Int32) (v3 : Int32) (M4 : Mem) => run C_X7_waysAnew 9 (19, [some (.ref 0), some (.int v1), some (.int v2), some (.int v3)], [], M4, 4)) = (fun (v1 : Int32) (v2 : Int32) (v3 : Int32) (M4 : Mem) => some (.inl (34, [some (.ref 0), some (.int v1), some (.int v2), some (.int v3)], [.long (d_X7_bitsOf v2 M4), .long (d_X7_bitsOf v1 M4), .int v3, .ref 17], M4, 4))) := by rfl
set_option maxRecDepth 100000 in
theorem b_X7_waysAnew_5 : (fun (v1 : Int32) (v2 : Int32) (v3 : Int32) (M4 : Mem) (w5 : Int32) => run C_X7_waysAnew 1 (37, [some (.ref 0), some (.int v1), some (.int v2), some (.int v3)], [.int w5], M4, 4)) = (fun (v1 : Int32) (v2 : Int32) (v3 : Int32) (M4 : Mem) (w5 : Int32) => some (.inr (.inl (some (.int w5)), M4, 4))) := by rfl
def d_X7_waysAnew (v1 : Int32) (v2 : Int32) (v3 : Int32) (M : Mem) : Option (Res × Mem) := (onV (d_X7_needSet v1 M) (fun M1 => (onV (d_X7_needSet v2 M1) (fun M2 => (onV (d_X7_needElement v3 M2) (fun M3 => (onV (d_X7_needRoot M3) (fun M4 => ((d_X6_waysTo v3 (d_X7_bitsOf v1 M4) (d_X7_bitsOf v2 M4) M4).bind fun w5 => some (.inl (some (.int w5)), M4))) (fun r => some r))) (fun r => some r))) (fun r => some r))) (fun r => some r))
set_option maxHeartbeats 2000000 in
theorem r_X7_waysAnew (v1 : Int32) (v2 : Int32) (v3 : Int32) (M : Mem) : RG C_X7_waysAnew (0, [some (.ref 0), some (.int v1), some (.int v2), some (.int v3)], [], M, 0) (d_X7_waysAnew v1 v2 v3 M) (fun r => .inr r) := by
  unfold d_X7_waysAnew
  refine RG.st 2 (congrFun (congrFun (congrFun (congrFun b_X7_waysAnew_0 v1) v2) v3) M) ?_
  refine RG.callV (fun M1 h1 => RG.st 1 (run_callV (v := none) rfl rfl rfl rfl rfl h1) ?_) (fun E M1 h1 => RG.fin rfl (Rend.run 1 (run_callVx rfl rfl rfl rfl rfl h1 rfl)))
  show RG C_X7_waysAnew (5, [some (.ref 0), some (.int v1), some (.int v2), some (.int v3)], [], M1, 1) _ _
  refine RG.st 2 (congrFun (congrFun (congrFun (congrFun b_X7_waysAnew_1 v1) v2) v3) M1) ?_
  refine RG.callV (fun M2 h2 => RG.st 1 (run_callV (v := none) rfl rfl rfl rfl rfl h2) ?_) (fun E M2 h2 => RG.fin rfl (Rend.run 1 (run_callVx rfl rfl rfl rfl rfl h2 rfl)))
  show RG C_X7_waysAnew (10, [some (.ref 0), some (.int v1), some (.int v2), some (.int v3)], [], M2, 2) _ _
  refine RG.st 2 (congrFun (congrFun (congrFun (congrFun b_X7_waysAnew_2 v1) v2) v3) M2) ?_
  refine RG.callV (fun M3 h3 => RG.st 1 (run_callV (v := none) rfl rfl rfl rfl rfl h3) ?_) (fun E M3 h3 => RG.fin rfl (Rend.run 1 (run_callVx rfl rfl rfl rfl rfl h3 rfl)))
  show RG C_X7_waysAnew (15, [some (.ref 0), some (.int v1), some (.int v2), some (.int v3)], [], M3, 3) _ _
  refine RG.st 1 (congrFun (congrFun (congrFun (congrFun b_X7_waysAnew_3 v1) v2) v3) M3) ?_
  refine RG.callV (fun M4 h4 => RG.st 1 (run_callV (v := none) rfl rfl rfl rfl rfl h4) ?_) (fun E M4 h4 => RG.fin rfl (Rend.run 1 (run_callVx rfl rfl rfl rfl rfl h4 rfl)))
  show RG C_X7_waysAnew (19, [some (.ref 0), some (.int v1), some (.int v2), some (.int v3)], [], M4, 4) _ _
  refine RG.st 9 (congrFun (congrFun (congrFun (congrFun b_X7_waysAnew_4 v1) v2) v3) M4) ?_
  refine RG.bind (fun w5 h5 => RG.st 1 (run_callV (v := some (.int w5)) rfl rfl rfl rfl rfl (bindI h5)) ?_)
  show RG C_X7_waysAnew (37, [some (.ref 0), some (.int v1), some (.int v2), some (.int v3)], [.int w5], M4, 4) _ _
  exact RG.fin rfl (Rend.run 1 (congrFun (congrFun (congrFun (congrFun (congrFun b_X7_waysAnew_5 v1) v2) v3) M4) w5))
def fn_X7_waysAnew : Fn := fun av M => match av with
  | [.ref r0, .int v1, .int v2, .int v3] => bif Nat.beq r0 0 then (d_X7_waysAnew v1 v2 v3 M) else (none)
  | _ => none
theorem cfg_X7_waysAnew : CfgOK RX7 cX7_waysAnew (C_X7_waysAnew) 7 := ⟨tk_X7_waysAnew, csF_nd, flk_X7, (List.forall_mem_cons.mpr ⟨Or.inr ⟨yX7_needElement, cX7_needElement, 2, none, none, 6, ok_X7_needElement, by decide, by decide, w_code_Sumsetry_needElement__I_V, w_initialized_Sumsetry, ⟨by decide, by decide⟩, Or.inr (Or.inr ⟨rfl, rfl, show (parseMethodDescriptor yX7_needElement.desc).map (fun d => d.parameters.length + 1) = some 2 from by decide +kernel, w_methodLink_Sumsetry_76, w_instanceMethod_Sumsetry_needElement__I_V, w_selects_Sumsetry_needElement__I_V, ⟨_, rfl, rfl⟩⟩)⟩,
    List.forall_mem_cons.mpr ⟨Or.inr ⟨yX7_needSet, cX7_needSet, 2, none, none, 6, ok_X7_needSet, by decide, by decide, w_code_Sumsetry_needSet__I_V, w_initialized_Sumsetry, ⟨by decide, by decide⟩, Or.inr (Or.inr ⟨rfl, rfl, show (parseMethodDescriptor yX7_needSet.desc).map (fun d => d.parameters.length + 1) = some 2 from by decide +kernel, w_methodLink_Sumsetry_98, w_instanceMethod_Sumsetry_needSet__I_V, w_selects_Sumsetry_needSet__I_V, ⟨_, rfl, rfl⟩⟩)⟩,
    List.forall_mem_cons.mpr ⟨Or.inr ⟨yX7_bitsOf, cX7_bitsOf, 2, (some .long), none, 1, ok_X7_bitsOf, by decide, by decide, w_code_Sumsetry_bitsOf__I_J, w_initialized_Sumsetry, ⟨by decide, by decide⟩, Or.inr (Or.inr ⟨rfl, rfl, show (parseMethodDescriptor yX7_bitsOf.desc).map (fun d => d.parameters.length + 1) = some 2 from by decide +kernel, w_methodLink_Sumsetry_103, w_instanceMethod_Sumsetry_bitsOf__I_J, w_selects_Sumsetry_bitsOf__I_J, ⟨_, rfl, rfl⟩⟩)⟩,
    List.forall_mem_cons.mpr ⟨Or.inr ⟨yX7_needRoot, cX7_needRoot, 1, none, none, 6, ok_X7_needRoot, by decide, by decide, w_code_Sumsetry_needRoot___V, w_initialized_Sumsetry, ⟨by decide, by decide⟩, Or.inr (Or.inr ⟨rfl, rfl, show (parseMethodDescriptor yX7_needRoot.desc).map (fun d => d.parameters.length + 1) = some 1 from by decide +kernel, w_methodLink_Sumsetry_244, w_instanceMethod_Sumsetry_needRoot___V, w_selects_Sumsetry_needRoot___V, ⟨_, rfl, rfl⟩⟩)⟩,
    List.forall_mem_cons.mpr ⟨Or.inr ⟨yX6_waysTo, cX6_waysTo, 9, (some .int), none, 4, ok_X6_waysTo, by decide, by decide, w_code_Sumsetry_Transforms_waysTo__IJJ_I, w_initialized_Sumsetry_Transforms, ⟨by decide, by decide⟩, Or.inr (Or.inr ⟨rfl, rfl, show (parseMethodDescriptor yX6_waysTo.desc).map (fun d => d.parameters.length + 1) = some 4 from by decide +kernel, w_methodLink_Sumsetry_250, w_instanceMethod_Sumsetry_Transforms_waysTo__IJJ_I, w_selects_Sumsetry_Transforms_waysTo__IJJ_I, ⟨_, rfl, rfl⟩⟩)⟩, fun _ h => absurd h List.not_mem_nil⟩⟩⟩⟩⟩), ink_X7, lgk_X7, fun e h => absurd h List.not_mem_nil, (fun h hh => absurd hh List.not_mem_nil)⟩
theorem ok_X7_waysAnew : OkM csF yX7_waysAnew (Cond.code yX7_waysAnew cX7_waysAnew 4 (some .int)) 7 4 fn_X7_waysAnew :=
  OkM_of (own := RX7) (C := C_X7_waysAnew) (by decide +kernel) rfl (cfg_X7_waysAnew) rfl rfl rfl rfl (by
    intro av M o M' h
    unfold fn_X7_waysAnew at h
    split at h
    · rename_i r0 v1 v2 v3
      rcases bif_cs h with ⟨hb, h⟩ | ⟨-, h⟩
      · skip
        have hr0 := hb
        obtain rfl := Nat.eq_of_beq_eq_true hr0
        exact ⟨rfl, Nat.le_of_ble_eq_true rfl, (r_X7_waysAnew v1 v2 v3 M) (o, M') h⟩
      · cases h
    · cases h)
def t_X7_of : List (Nat × Instr × Nat) := [(0, .iload_n 1, 1), (1, .tableswitch 72 0 4 #[35, 43, 51, 56, 64], 35), (36, .aload_n 0, 1), (37, .getfield 10, 3), (40, .getfield 235, 3), (43, .ireturn, 1), (44, .aload_n 0, 1), (45, .getfield 10, 3), (48, .getfield 227, 3), (51, .ireturn, 1), (52, .aload_n 0, 1), (53, .getfield 20, 3), (56, .ireturn, 1), (57, .aload_n 0, 1), (58, .getfield 41, 3), (61, .getfield 207, 3), (64, .ireturn, 1), (65, .aload_n 0, 1), (66, .getfield 48, 3), (69, .getfield 251, 3), (72, .ireturn, 1), (73, .new 56, 3), (76, .dup, 1), (77, .ldc 254, 2), (79, .invokespecial 60, 3), (82, .athrow, 1)]
theorem tk_X7_of : ∀ x ∈ t_X7_of, decode cX7_of x.1 = .ok x.2 := by decide +kernel
def C_X7_of : Cfg := (t_X7_of, csF, fl_X7, [], in_X7, lg_X7, [(73, "java/lang/IllegalArgumentException", 56, 254, 60, "what out of range")], [], none, (some .int), 1)
set_option maxRecDepth 100000 in
theorem b_X7_of_0 : (fun (v1 : Int32) (M : Mem) => run C_X7_of 1 (0, [some (.ref 0), some (.int v1)], [], M, 0)) = (fun (v1 : Int32) (M : Mem) => some (.inl (1, [some (.ref 0), some (.int v1)], [.int v1], M, 0))) := by rfl
set_option maxRecDepth 100000 in
theorem b_X7_of_1 : (fun (v1 : Int32) (M : Mem) => run C_X7_of 1 (1, [some (.ref 0), some (.int v1)], [.int (0 : Int32)], M, 0)) = (fun (v1 : Int32) (M : Mem) => some (.inl (36, [some (.ref 0), some (.int v1)], [], M, 0))) := by rfl
set_option maxRecDepth 100000 in
theorem b_X7_of_2 : (fun (v1 : Int32) (M : Mem) => run C_X7_of 4 (36, [some (.ref 0), some (.int v1)], [], M, 0)) = (fun (v1 : Int32) (M : Mem) => some (.inr (.inl (some (.int (M.1 2 0))), M, 0))) := by rfl
set_option maxRecDepth 100000 in
theorem b_X7_of_3 : (fun (v1 : Int32) (M : Mem) => run C_X7_of 1 (1, [some (.ref 0), some (.int v1)], [.int (1 : Int32)], M, 0)) = (fun (v1 : Int32) (M : Mem) => some (.inl (44, [some (.ref 0), some (.int v1)], [], M, 0))) := by rfl
set_option maxRecDepth 100000 in
theorem b_X7_of_4 : (fun (v1 : Int32) (M : Mem) => run C_X7_of 4 (44, [some (.ref 0), some (.int v1)], [], M, 0)) = (fun (v1 : Int32) (M : Mem) => some (.inr (.inl (some (.int (M.1 2 1))), M, 0))) := by rfl
set_option maxRecDepth 100000 in
theorem b_X7_of_5 : (fun (v1 : Int32) (M : Mem) => run C_X7_of 1 (1, [some (.ref 0), some (.int v1)], [.int (2 : Int32)], M, 0)) = (fun (v1 : Int32) (M : Mem) => some (.inl (52, [some (.ref 0), some (.int v1)], [], M, 0))) := by rfl
set_option maxRecDepth 100000 in
theorem b_X7_of_6 : (fun (v1 : Int32) (M : Mem) => run C_X7_of 3 (52, [some (.ref 0), some (.int v1)], [], M, 0)) = (fun (v1 : Int32) (M : Mem) => some (.inr (.inl (some (.int (M.1 0 2))), M, 0))) := by rfl
set_option maxRecDepth 100000 in
theorem b_X7_of_7 : (fun (v1 : Int32) (M : Mem) => run C_X7_of 1 (1, [some (.ref 0), some (.int v1)], [.int (3 : Int32)], M, 0)) = (fun (v1 : Int32) (M : Mem) => some (.inl (57, [some (.ref 0), some (.int v1)], [], M, 0))) := by rfl
set_option maxRecDepth 100000 in
theorem b_X7_of_8 : (fun (v1 : Int32) (M : Mem) => run C_X7_of 4 (57, [some (.ref 0), some (.int v1)], [], M, 0)) = (fun (v1 : Int32) (M : Mem) => some (.inr (.inl (some (.int (M.1 14 2))), M, 0))) := by rfl
set_option maxRecDepth 100000 in
theorem b_X7_of_9 : (fun (v1 : Int32) (M : Mem) => run C_X7_of 1 (1, [some (.ref 0), some (.int v1)], [.int (4 : Int32)], M, 0)) = (fun (v1 : Int32) (M : Mem) => some (.inl (65, [some (.ref 0), some (.int v1)], [], M, 0))) := by rfl
set_option maxRecDepth 100000 in
theorem b_X7_of_10 : (fun (v1 : Int32) (M : Mem) => run C_X7_of 4 (65, [some (.ref 0), some (.int v1)], [], M, 0)) = (fun (v1 : Int32) (M : Mem) => some (.inr (.inl (some (.int (M.1 17 0))), M, 0))) := by rfl
set_option maxRecDepth 100000 in
theorem b_X7_of_11 : (fun (v1 : Int32) (M : Mem) => run C_X7_of 1 (73, [some (.ref 0), some (.int v1)], [], M, 0)) = (fun (v1 : Int32) (M : Mem) => some (.inr (.inr "java/lang/IllegalArgumentException", M, 1))) := by rfl
def d_X7_of (v1 : Int32) (M : Mem) : Option (Res × Mem) := (if v1 = 0 then some (.inl (some (.int (M.1 2 0))), M) else (if v1 = 1 then some (.inl (some (.int (M.1 2 1))), M) else (if v1 = 2 then some (.inl (some (.int (M.1 0 2))), M) else (if v1 = 3 then some (.inl (some (.int (M.1 14 2))), M) else (if v1 = 4 then some (.inl (some (.int (M.1 17 0))), M) else (some (.inr "java/lang/IllegalArgumentException", M)))))))
set_option maxHeartbeats 2000000 in
theorem r_X7_of (v1 : Int32) (M : Mem) : RG C_X7_of (0, [some (.ref 0), some (.int v1)], [], M, 0) (d_X7_of v1 M) (fun r => .inr r) := by
  unfold d_X7_of
  refine RG.st 1 (congrFun (congrFun b_X7_of_0 v1) M) ?_
  refine RG.ite (fun h1 => RG.eqI h1 (RG.st 1 (congrFun (congrFun b_X7_of_1 v1) M) ?_)) (fun h1 => ?_)
  · exact RG.fin rfl (Rend.run 4 (congrFun (congrFun b_X7_of_2 v1) M))
  refine RG.ite (fun h2 => RG.eqI h2 (RG.st 1 (congrFun (congrFun b_X7_of_3 v1) M) ?_)) (fun h2 => ?_)
  · exact RG.fin rfl (Rend.run 4 (congrFun (congrFun b_X7_of_4 v1) M))
  refine RG.ite (fun h3 => RG.eqI h3 (RG.st 1 (congrFun (congrFun b_X7_of_5 v1) M) ?_)) (fun h3 => ?_)
  · exact RG.fin rfl (Rend.run 3 (congrFun (congrFun b_X7_of_6 v1) M))
  refine RG.ite (fun h4 => RG.eqI h4 (RG.st 1 (congrFun (congrFun b_X7_of_7 v1) M) ?_)) (fun h4 => ?_)
  · exact RG.fin rfl (Rend.run 4 (congrFun (congrFun b_X7_of_8 v1) M))
  refine RG.ite (fun h5 => RG.eqI h5 (RG.st 1 (congrFun (congrFun b_X7_of_9 v1) M) ?_)) (fun h5 => ?_)
  · exact RG.fin rfl (Rend.run 4 (congrFun (congrFun b_X7_of_10 v1) M))
  refine RG.st 1 (run_tsw (q := 73) rfl rfl (tsw_out (by have e0 : v1.toInt ≠ 0 := fun e => h1 (Int32.toInt_inj.mp (e.trans (by decide))); have e1 : v1.toInt ≠ 1 := fun e => h2 (Int32.toInt_inj.mp (e.trans (by decide))); have e2 : v1.toInt ≠ 2 := fun e => h3 (Int32.toInt_inj.mp (e.trans (by decide))); have e3 : v1.toInt ≠ 3 := fun e => h4 (Int32.toInt_inj.mp (e.trans (by decide))); have e4 : v1.toInt ≠ 4 := fun e => h5 (Int32.toInt_inj.mp (e.trans (by decide))); omega) rfl rfl)) ?_
  exact RG.fin rfl (Rend.run 1 (congrFun (congrFun b_X7_of_11 v1) M))
def fn_X7_of : Fn := fun av M => match av with
  | [.ref r0, .int v1] => bif Nat.beq r0 0 then (d_X7_of v1 M) else (none)
  | _ => none
theorem cfg_X7_of : CfgOK RX7 cX7_of (C_X7_of) 6 := ⟨tk_X7_of, csF_nd, flk_X7, (fun e h => absurd h List.not_mem_nil), ink_X7, lgk_X7, by decide +kernel, (fun h hh => absurd hh List.not_mem_nil)⟩
theorem ok_X7_of : OkM csF yX7_of (Cond.code yX7_of cX7_of 2 (some .int)) 6 1 fn_X7_of :=
  OkM_of (own := RX7) (C := C_X7_of) (by decide +kernel) rfl (cfg_X7_of) rfl rfl rfl rfl (by
    intro av M o M' h
    unfold fn_X7_of at h
    split at h
    · rename_i r0 v1
      rcases bif_cs h with ⟨hb, h⟩ | ⟨-, h⟩
      · skip
        have hr0 := hb
        obtain rfl := Nat.eq_of_beq_eq_true hr0
        exact ⟨rfl, Nat.le_of_ble_eq_true rfl, (r_X7_of v1 M) (o, M') h⟩
      · cases h
    · cases h)
def C_X7_rests : Cfg := (t_X7_rest, csS, fl_X7, [], in_X7, lg_X7, [], [], none, (some .int), 0)
set_option maxRecDepth 100000 in
theorem b_X7_rests_0 : (fun (v0 : Int32) (v1 : Int32) (M : Mem) => run C_X7_rests 3 (0, [some (.int v0), some (.int v1), none], [], M, 0)) = (fun (v0 : Int32) (v1 : Int32) (M : Mem) => some (.inl ((br (!decide (v1 < (1 : Int32))) 2 3 (5)), [some (.int v0), some (.int v1), none], [], M, 0))) := by rfl
set_option maxRecDepth 100000 in
theorem b_X7_rests_1 : (fun (v0 : Int32) (v1 : Int32) (M : Mem) => run C_X7_rests 2 (5, [some (.int v0), some (.int v1), none], [], M, 0)) = (fun (v0 : Int32) (v1 : Int32) (M : Mem) => some (.inr (.inl (some (.int (0 : Int32))), M, 0))) := by rfl
set_option maxRecDepth 100000 in
theorem b_X7_rests_2 : (fun (v0 : Int32) (v1 : Int32) (M : Mem) => run C_X7_rests 2 (7, [some (.int v0), some (.int v1), none], [], M, 0)) = (fun (v0 : Int32) (v1 : Int32) (M : Mem) => some (.inl (9, [some (.int v0), some (.int v1), none], [.int v1, .int v0], M, 0))) := by rfl
set_option maxRecDepth 100000 in
theorem b_X7_rests_3 : (fun (v0 : Int32) (v1 : Int32) (M : Mem) => stp C_X7_rests (9, [some (.int v0), some (.int v1), none], [.int v1, .int v0], M, 0)) = (fun (v0 : Int32) (v1 : Int32) (M : Mem) => (if v1 = 0 then none else some (.inl (10, [some (.int v0), some (.int v1), none], [.int (jrem v0 v1)], M, 0)))) := by rfl
set_option maxRecDepth 100000 in
theorem b_X7_rests_4 : (fun (v0 : Int32) (v1 : Int32) (M : Mem) => run C_X7_rests 3 (10, [some (.int v0), some (.int v1), none], [.int (jrem v0 v1)], M, 0)) = (fun (v0 : Int32) (v1 : Int32) (M : Mem) => some (.inl ((br (!decide ((jrem v0 v1) < 0)) 12 3 (9)), [some (.int v0), some (.int v1), some (.int (jrem v0 v1))], [], M, 0))) := by rfl
set_option maxRecDepth 100000 in
theorem b_X7_rests_5 : (fun (v0 : Int32) (v1 : Int32) (M : Mem) => run C_X7_rests 5 (15, [some (.int v0), some (.int v1), some (.int (jrem v0 v1))], [], M, 0)) = (fun (v0 : Int32) (v1 : Int32) (M : Mem) => some (.inr (.inl (some (.int ((jrem v0 v1) + v1))), M, 0))) := by rfl
set_option maxRecDepth 100000 in
theorem b_X7_rests_6 : (fun (v0 : Int32) (v1 : Int32) (M : Mem) => run C_X7_rests 2 (21, [some (.int v0), some (.int v1), some (.int (jrem v0 v1))], [], M, 0)) = (fun (v0 : Int32) (v1 : Int32) (M : Mem) => some (.inr (.inl (some (.int (jrem v0 v1))), M, 0))) := by rfl
set_option maxHeartbeats 2000000 in
theorem r_X7_rests (v0 : Int32) (v1 : Int32) (M : Mem) : RG C_X7_rests (0, [some (.int v0), some (.int v1), none], [], M, 0) (some (d_X7_rest v0 v1)) (fun v => .inr (.inl (some (.int v)), M)) := by
  unfold d_X7_rest
  refine RG.st 3 (congrFun (congrFun (congrFun b_X7_rests_0 v0) v1) M) ?_
  refine RG.ites (fun h1 => RG.brNF (q := 5) h1 rfl ?_) (fun h1 => RG.brNT (q := 7) h1 rfl ?_)
  · exact RG.fin rfl (Rend.run 2 (congrFun (congrFun (congrFun b_X7_rests_1 v0) v1) M))
  · refine RG.st 2 (congrFun (congrFun (congrFun b_X7_rests_2 v0) v1) M) ?_
    have h2 : ¬ (v1 = 0) := (by intro h0; rw [h0] at h1; exact h1 (by decide))
    refine RG.st 1 (stp_gN h2 (congrFun (congrFun (congrFun b_X7_rests_3 v0) v1) M)) ?_
    refine RG.st 3 (congrFun (congrFun (congrFun b_X7_rests_4 v0) v1) M) ?_
    refine RG.ites (fun h3 => RG.brNF (q := 15) h3 rfl ?_) (fun h3 => RG.brNT (q := 21) h3 rfl ?_)
    · exact RG.fin rfl (Rend.run 5 (congrFun (congrFun (congrFun b_X7_rests_5 v0) v1) M))
    · exact RG.fin rfl (Rend.run 2 (congrFun (congrFun (congrFun b_X7_rests_6 v0) v1) M))
theorem cfg_X7_rests : CfgOK RX7 cX7_rest (C_X7_rests) 1 := ⟨tk_X7_rest, csS_nd, flk_X7, (fun e h => absurd h List.not_mem_nil), ink_X7, lgk_X7, fun e h => absurd h List.not_mem_nil, (fun h hh => absurd hh List.not_mem_nil)⟩
theorem ok_X7_rests : OkM csS yX7_rest (Cond.code yX7_rest cX7_rest 3 (some .int)) 1 0 fn_X7_rest :=
  OkM_of (own := RX7) (C := C_X7_rests) (by decide +kernel) rfl (cfg_X7_rests) rfl rfl rfl rfl (by
    intro av M o M' h
    unfold fn_X7_rest at h
    split at h
    · rename_i v0 v1
      cases h
      exact ⟨rfl, Nat.le_of_ble_eq_true rfl, (r_X7_rests v0 v1 M) _ rfl⟩
    · cases h)
def C_X7_shares : Cfg := (t_X7_share, csS, fl_X7, [], in_X7, lg_X7, [], [], none, (some .int), 0)
set_option maxRecDepth 100000 in
theorem b_X7_shares_0 : (fun (v0 : Int32) (v1 : Int32) (M : Mem) => run C_X7_shares 3 (0, [some (.int v0), some (.int v1)], [], M, 0)) = (fun (v0 : Int32) (v1 : Int32) (M : Mem) => some (.inl ((br (!decide (v1 < (1 : Int32))) 2 3 (7)), [some (.int v0), some (.int v1)], [], M, 0))) := by rfl
set_option maxRecDepth 100000 in
theorem b_X7_shares_1 : (fun (v0 : Int32) (v1 : Int32) (M : Mem) => run C_X7_shares 3 (5, [some (.int v0), some (.int v1)], [], M, 0)) = (fun (v0 : Int32) (v1 : Int32) (M : Mem) => some (.inr (.inl (some (.int (0 : Int32))), M, 0))) := by rfl
set_option maxRecDepth 100000 in
theorem b_X7_shares_2 : (fun (v0 : Int32) (v1 : Int32) (M : Mem) => run C_X7_shares 2 (9, [some (.int v0), some (.int v1)], [], M, 0)) = (fun (v0 : Int32) (v1 : Int32) (M : Mem) => some (.inl (11, [some (.int v0), some (.int v1)], [.int v1, .int v0], M, 0))) := by rfl
set_option maxRecDepth 100000 in
theorem b_X7_shares_3 : (fun (v0 : Int32) (v1 : Int32) (M : Mem) => stp C_X7_shares (11, [some (.int v0), some (.int v1)], [.int v1, .int v0], M, 0)) = (fun (v0 : Int32) (v1 : Int32) (M : Mem) => (if v1 = 0 then none else some (.inl (12, [some (.int v0), some (.int v1)], [.int (v0 / v1)], M, 0)))) := by rfl
set_option maxRecDepth 100000 in
theorem b_X7_shares_4 : (fun (v0 : Int32) (v1 : Int32) (M : Mem) => run C_X7_shares 1 (12, [some (.int v0), some (.int v1)], [.int (v0 / v1)], M, 0)) = (fun (v0 : Int32) (v1 : Int32) (M : Mem) => some (.inr (.inl (some (.int (v0 / v1))), M, 0))) := by rfl
set_option maxHeartbeats 2000000 in
theorem r_X7_shares (v0 : Int32) (v1 : Int32) (M : Mem) : RG C_X7_shares (0, [some (.int v0), some (.int v1)], [], M, 0) (some (d_X7_share v0 v1)) (fun v => .inr (.inl (some (.int v)), M)) := by
  unfold d_X7_share
  refine RG.st 3 (congrFun (congrFun (congrFun b_X7_shares_0 v0) v1) M) ?_
  refine RG.ites (fun h1 => RG.brNF (q := 5) h1 rfl ?_) (fun h1 => RG.brNT (q := 9) h1 rfl ?_)
  · exact RG.fin rfl (Rend.run 3 (congrFun (congrFun (congrFun b_X7_shares_1 v0) v1) M))
  · refine RG.st 2 (congrFun (congrFun (congrFun b_X7_shares_2 v0) v1) M) ?_
    have h2 : ¬ (v1 = 0) := (by intro h0; rw [h0] at h1; exact h1 (by decide))
    refine RG.st 1 (stp_gN h2 (congrFun (congrFun (congrFun b_X7_shares_3 v0) v1) M)) ?_
    exact RG.fin rfl (Rend.run 1 (congrFun (congrFun (congrFun b_X7_shares_4 v0) v1) M))
theorem cfg_X7_shares : CfgOK RX7 cX7_share (C_X7_shares) 1 := ⟨tk_X7_share, csS_nd, flk_X7, (fun e h => absurd h List.not_mem_nil), ink_X7, lgk_X7, fun e h => absurd h List.not_mem_nil, (fun h hh => absurd hh List.not_mem_nil)⟩
theorem ok_X7_shares : OkM csS yX7_share (Cond.code yX7_share cX7_share 2 (some .int)) 1 0 fn_X7_share :=
  OkM_of (own := RX7) (C := C_X7_shares) (by decide +kernel) rfl (cfg_X7_shares) rfl rfl rfl rfl (by
    intro av M o M' h
    unfold fn_X7_share at h
    split at h
    · rename_i v0 v1
      cases h
      exact ⟨rfl, Nat.le_of_ble_eq_true rfl, (r_X7_shares v0 v1 M) _ rfl⟩
    · cases h)
def C_X7_bits : Cfg := (t_X7_bit, csS, fl_X7, [], in_X7, lg_X7, [], [], none, (some .long), 0)
set_option maxRecDepth 100000 in
theorem b_X7_bits_0 : (fun (v0 : Int32) (M : Mem) => run C_X7_bits 4 (0, [some (.int v0)], [], M, 0)) = (fun (v0 : Int32) (M : Mem) => some (.inr (.inl (some (.long (jshl (1 : Int64) v0))), M, 0))) := by rfl
set_option maxHeartbeats 2000000 in
theorem r_X7_bits (v0 : Int32) (M : Mem) : RG C_X7_bits (0, [some (.int v0)], [], M, 0) (some (d_X7_bit v0)) (fun v => .inr (.inl (some (.long v)), M)) := by
  unfold d_X7_bit
  exact RG.fin rfl (Rend.run 4 (congrFun (congrFun b_X7_bits_0 v0) M))
theorem cfg_X7_bits : CfgOK RX7 cX7_bit (C_X7_bits) 1 := ⟨tk_X7_bit, csS_nd, flk_X7, (fun e h => absurd h List.not_mem_nil), ink_X7, lgk_X7, fun e h => absurd h List.not_mem_nil, (fun h hh => absurd hh List.not_mem_nil)⟩
theorem ok_X7_bits : OkM csS yX7_bit (Cond.code yX7_bit cX7_bit 1 (some .long)) 1 0 fn_X7_bit :=
  OkM_of (own := RX7) (C := C_X7_bits) (by decide +kernel) rfl (cfg_X7_bits) rfl rfl rfl rfl (by
    intro av M o M' h
    unfold fn_X7_bit at h
    split at h
    · rename_i v0
      cases h
      exact ⟨rfl, Nat.le_of_ble_eq_true rfl, (r_X7_bits v0 M) _ rfl⟩
    · cases h)
def C_X7_lays : Cfg := (t_X7_lay, csS, fl_X7, [], in_X7, lg_X7, [], [], none, none, 0)
set_option maxRecDepth 100000 in
theorem b_X7_lay_k3s_0 : (fun (v1 : Int32) (v2 : Int32) (M : Mem) => run C_X7_lays 2 (0, [some (.ref 3), some (.int v1), some (.int v2)], [], M, 0)) = (fun (v1 : Int32) (v2 : Int32) (M : Mem) => some (.inl ((br (decide (v1 < 0)) 1 3 (13)), [some (.ref 3), some (.int v1), some (.int v2)], [], M, 0))) := by rfl
set_option maxRecDepth 100000 in
theorem b_X7_lay_k3s_1 : (fun (v1 : Int32) (v2 : Int32) (M : Mem) => run C_X7_lays 1 (14, [some (.ref 3), some (.int v1), some (.int v2)], [], M, 0)) = (fun (v1 : Int32) (v2 : Int32) (M : Mem) => some (.inr (.inl none, M, 0))) := by rfl
set_option maxRecDepth 100000 in
theorem b_X7_lay_k3s_2 : (fun (v1 : Int32) (v2 : Int32) (M : Mem) => run C_X7_lays 4 (4, [some (.ref 3), some (.int v1), some (.int v2)], [], M, 0)) = (fun (v1 : Int32) (v2 : Int32) (M : Mem) => some (.inl ((br (!decide (v1 < (36 : Int32))) 7 3 (7)), [some (.ref 3), some (.int v1), some (.int v2)], [], M, 0))) := by rfl
set_option maxRecDepth 100000 in
theorem b_X7_lay_k3s_3 : (fun (v1 : Int32) (v2 : Int32) (M : Mem) => run C_X7_lays 3 (10, [some (.ref 3), some (.int v1), some (.int v2)], [], M, 0)) = (fun (v1 : Int32) (v2 : Int32) (M : Mem) => some (.inl (13, [some (.ref 3), some (.int v1), some (.int v2)], [.int v2, .int v1, .ref 3], M, 0))) := by rfl
set_option maxRecDepth 100000 in
theorem b_X7_lay_k3s_4 : (fun (v1 : Int32) (v2 : Int32) (M : Mem) => stp C_X7_lays (13, [some (.ref 3), some (.int v1), some (.int v2)], [.int v2, .int v1, .ref 3], M, 0)) = (fun (v1 : Int32) (v2 : Int32) (M : Mem) => (if inb v1 36 = true then some (.inl (14, [some (.ref 3), some (.int v1), some (.int v2)], [], (sI M 3 (ix v1) v2), 0)) else none)) := by rfl
set_option maxRecDepth 100000 in
theorem b_X7_lay_k3s_5 : (fun (v1 : Int32) (v2 : Int32) (M : Mem) => run C_X7_lays 1 (14, [some (.ref 3), some (.int v1), some (.int v2)], [], (sI M 3 (ix v1) v2), 0)) = (fun (v1 : Int32) (v2 : Int32) (M : Mem) => some (.inr (.inl none, (sI M 3 (ix v1) v2), 0))) := by rfl
set_option maxRecDepth 100000 in
theorem b_X7_lay_k3s_6 : (fun (v1 : Int32) (v2 : Int32) (M : Mem) => run C_X7_lays 1 (14, [some (.ref 3), some (.int v1), some (.int v2)], [], M, 0)) = (fun (v1 : Int32) (v2 : Int32) (M : Mem) => some (.inr (.inl none, M, 0))) := by rfl
set_option maxHeartbeats 2000000 in
theorem r_X7_lay_k3s (v1 : Int32) (v2 : Int32) (M : Mem) : RG C_X7_lays (0, [some (.ref 3), some (.int v1), some (.int v2)], [], M, 0) (some (d_X7_lay 3 36 v1 v2 M)) (fun m => .inr (.inl none, m)) := by
  unfold d_X7_lay
  refine RG.st 2 (congrFun (congrFun (congrFun b_X7_lay_k3s_0 v1) v2) M) ?_
  refine RG.ites (fun h1 => RG.brT (q := 14) h1 rfl ?_) (fun h1 => RG.brF (q := 4) h1 rfl ?_)
  · exact RG.fin rfl (Rend.run 1 (congrFun (congrFun (congrFun b_X7_lay_k3s_1 v1) v2) M))
  · refine RG.st 4 (congrFun (congrFun (congrFun b_X7_lay_k3s_2 v1) v2) M) ?_
    refine RG.ites (fun h2 => RG.brNF (q := 10) h2 rfl ?_) (fun h2 => RG.brNT (q := 14) h2 rfl ?_)
    · refine RG.st 3 (congrFun (congrFun (congrFun b_X7_lay_k3s_3 v1) v2) M) ?_
      have h3 : (inb v1 36 = true) := inb_of h1 h2 (by decide) (by decide)
      refine RG.st 1 (stp_g h3 (congrFun (congrFun (congrFun b_X7_lay_k3s_4 v1) v2) M)) ?_
      exact RG.fin rfl (Rend.run 1 (congrFun (congrFun (congrFun b_X7_lay_k3s_5 v1) v2) M))
    · exact RG.fin rfl (Rend.run 1 (congrFun (congrFun (congrFun b_X7_lay_k3s_6 v1) v2) M))
theorem cfg_X7_lays : CfgOK RX7 cX7_lay (C_X7_lays) 1 := ⟨tk_X7_lay, csS_nd, flk_X7, (fun e h => absurd h List.not_mem_nil), ink_X7, lgk_X7, fun e h => absurd h List.not_mem_nil, (fun h hh => absurd hh List.not_mem_nil)⟩
def fn_X7_lay3 : Fn := fun av M => match av with
  | [.ref r0, .int v1, .int v2] => (bif Nat.beq r0 3 then some (.inl none, d_X7_lay 3 36 v1 v2 M) else none)
  | _ => none
theorem ok_X7_lays : OkM csS yX7_lay (Cond.code yX7_lay cX7_lay 3 none) 1 0 fn_X7_lay3 :=
  OkM_of (own := RX7) (C := C_X7_lays) (by decide +kernel) rfl (cfg_X7_lays) rfl rfl rfl rfl (by
    intro av M o M' h
    unfold fn_X7_lay3 at h
    split at h
    · rename_i r0 v1 v2
      rcases bif_cs h with ⟨hb, h⟩ | ⟨-, h⟩
      · skip
        have hr0 := hb
        obtain rfl := Nat.eq_of_beq_eq_true hr0
        cases h
        exact ⟨rfl, Nat.le_of_ble_eq_true rfl, (r_X7_lay_k3s v1 v2 M) _ rfl⟩
      · cases h
    · cases h)
def C_X1_multipleS : Cfg := (t_X1_multiple, csS, fl_X1, [(53, 1, 5, 2, 0, fn_X7_share), (56, 1, 5, 2, 0, fn_X7_rest)], in_X1, lg_X1, [], [], none, (some .int), 0)
set_option maxRecDepth 100000 in
theorem b_X1_multipleS_0 : (fun (v1 : Int32) (v2 : Int32) (M : Mem) => run C_X1_multipleS 23 (0, [some (.ref 2), some (.int v1), some (.int v2)], [], M, 0)) = (fun (v1 : Int32) (v2 : Int32) (M : Mem) => some (.inr (.inl (some (.int (((M.1 2 1) * (d_X7_rest (v1 * (d_X7_share v2 (M.1 2 1))) (M.1 2 0))) + (d_X7_rest (v1 * (d_X7_rest v2 (M.1 2 1))) (M.1 2 1))))), M, 0))) := by rfl
set_option maxHeartbeats 2000000 in
theorem r_X1_multipleS (v1 : Int32) (v2 : Int32) (M : Mem) : RG C_X1_multipleS (0, [some (.ref 2), some (.int v1), some (.int v2)], [], M, 0) (some (d_X1_multiple v1 v2 M)) (fun v => .inr (.inl (some (.int v)), M)) := by
  unfold d_X1_multiple
  exact RG.fin rfl (Rend.run 23 (congrFun (congrFun (congrFun b_X1_multipleS_0 v1) v2) M))
theorem cfg_X1_multipleS : CfgOK RX1 cX1_multiple (C_X1_multipleS) 2 := ⟨tk_X1_multiple, csS_nd, flk_X1, (List.forall_mem_cons.mpr ⟨Or.inr ⟨yX7_share, cX7_share, 2, (some .int), none, 1, ok_X7_shares, by decide, by decide, w_code_Sumsetry_share__II_I, w_initialized_Sumsetry, ⟨by decide, by decide⟩, Or.inr (Or.inl ⟨rfl, rfl, show (parseMethodDescriptor yX7_share.desc).map (fun d => d.parameters.length) = some 2 from by decide +kernel, ⟨"Sumsetry", by decide +kernel⟩, w_static_Sumsetry_share__II_I⟩)⟩,
    List.forall_mem_cons.mpr ⟨Or.inr ⟨yX7_rest, cX7_rest, 3, (some .int), none, 1, ok_X7_rests, by decide, by decide, w_code_Sumsetry_rest__II_I, w_initialized_Sumsetry, ⟨by decide, by decide⟩, Or.inr (Or.inl ⟨rfl, rfl, show (parseMethodDescriptor yX7_rest.desc).map (fun d => d.parameters.length) = some 2 from by decide +kernel, ⟨"Sumsetry", by decide +kernel⟩, w_static_Sumsetry_rest__II_I⟩)⟩, fun _ h => absurd h List.not_mem_nil⟩⟩), ink_X1, lgk_X1, fun e h => absurd h List.not_mem_nil, (fun h hh => absurd hh List.not_mem_nil)⟩
theorem ok_X1_multipleS : OkM csS yX1_multiple (Cond.code yX1_multiple cX1_multiple 3 (some .int)) 2 0 fn_X1_multiple :=
  OkM_of (own := RX1) (C := C_X1_multipleS) (by decide +kernel) rfl (cfg_X1_multipleS) rfl rfl rfl rfl (by
    intro av M o M' h
    unfold fn_X1_multiple at h
    split at h
    · rename_i r0 v1 v2
      rcases bif_cs h with ⟨hb, h⟩ | ⟨-, h⟩
      · skip
        have hr0 := hb
        obtain rfl := Nat.eq_of_beq_eq_true hr0
        cases h
        exact ⟨rfl, Nat.le_of_ble_eq_true rfl, (r_X1_multipleS v1 v2 M) _ rfl⟩
      · cases h
    · cases h)
def C_X1_begins : Cfg := (t_X1_begin, csS, fl_X1, [(29, 1, 5, 1, 0, fn_X7_bit), (43, 2, 1, 3, 0, fn_X1_multiple), (47, 1, 5, 3, 0, fn_X7_lay3)], in_X1, lg_X1, [], [], none, none, 0)
set_option maxRecDepth 100000 in
theorem b_X1_begins_0 : (fun (v1 : Int32) (v2 : Int32) (M : Mem) => run C_X1_begins 25 (0, [some (.ref 2), some (.int v1), some (.int v2), none], [], M, 0)) = (fun (v1 : Int32) (v2 : Int32) (M : Mem) => some (.inl (43, [some (.ref 2), some (.int v1), some (.int v2), some (.int (0 : Int32))], [], (sL (sL (sI (sI (sI M 2 0 v1) 2 1 v2) 2 2 (v1 * v2)) 2 3 ((d_X7_bit (v1 * v2)) - (1 : Int64))) 2 4 (0 : Int64)), 0))) := by rfl
set_option maxRecDepth 100000 in
theorem b_X1_begins_1 : (fun (v1 : Int32) (v2 : Int32) (a1 : (Int32 × Mem)) => run C_X1_begins 4 (43, [some (.ref 2), some (.int v1), some (.int v2), some (.int a1.1)], [], a1.2, 0)) = (fun (v1 : Int32) (v2 : Int32) (a1 : (Int32 × Mem)) => some (.inl ((br (!decide (a1.1 < (a1.2.1 2 0))) 48 3 (27)), [some (.ref 2), some (.int v1), some (.int v2), some (.int a1.1)], [], a1.2, 0))) := by rfl
set_option maxRecDepth 100000 in
theorem b_X1_begins_2 : (fun (v1 : Int32) (v2 : Int32) (a1 : (Int32 × Mem)) => run C_X1_begins 12 (51, [some (.ref 2), some (.int v1), some (.int v2), some (.int a1.1)], [], a1.2, 0)) = (fun (v1 : Int32) (v2 : Int32) (a1 : (Int32 × Mem)) => some (.inl (43, [some (.ref 2), some (.int v1), some (.int v2), some (.int (a1.1 + (1 : Int32)))], [], (sL a1.2 2 4 ((a1.2.2 2 4) ||| (d_X7_bit ((a1.2.1 2 1) * a1.1)))), 0))) := by rfl
set_option maxHeartbeats 2000000 in
theorem l_X1_begins_1 (v1 : Int32) (v2 : Int32) (M : Mem) : ∀ a1 : Int32 × Mem, RG C_X1_begins ((fun (a1 : Int32 × Mem) => (43, [some (.ref 2), some (.int v1), some (.int v2), some (.int a1.1)], [], a1.2, 0)) a1) (g_X1_begin_1 a1) (lpP (fun (a1 : Int32 × Mem) => (43, [some (.ref 2), some (.int v1), some (.int v2), some (.int a1.1)], [], a1.2, 0)) (fun (a1 : Int32 × Mem) => (75, [some (.ref 2), some (.int v1), some (.int v2), some (.int a1.1)], [], a1.2, 0)) id) := by
  intro a1
  unfold g_X1_begin_1
  show RG C_X1_begins (43, [some (.ref 2), some (.int v1), some (.int v2), some (.int a1.1)], [], a1.2, 0) _ _
  refine RG.st 4 (congrFun (congrFun (congrFun b_X1_begins_1 v1) v2) a1) ?_
  refine RG.ite (fun h1 => RG.brNF (q := 51) h1 rfl ?_) (fun h1 => RG.brNT (q := 75) h1 rfl ?_)
  · refine RG.st 12 (congrFun (congrFun (congrFun b_X1_begins_2 v1) v2) a1) ?_
    exact RG.to rfl (Rto.refl _)
  · exact RG.to rfl (Rto.refl _)
set_option maxRecDepth 100000 in
theorem b_X1_begins_3 : (fun (v1 : Int32) (v2 : Int32) (a2 : (Int32 × Mem)) => run C_X1_begins 5 (75, [some (.ref 2), some (.int v1), some (.int v2), some (.int a2.1)], [], a2.2, 0)) = (fun (v1 : Int32) (v2 : Int32) (a2 : (Int32 × Mem)) => some (.inl (82, [some (.ref 2), some (.int v1), some (.int v2), some (.int (0 : Int32))], [], (sL a2.2 2 5 (0 : Int64)), 0))) := by rfl
set_option maxRecDepth 100000 in
theorem b_X1_begins_4 : (fun (v1 : Int32) (v2 : Int32) (a3 : (Int32 × Mem)) => run C_X1_begins 4 (82, [some (.ref 2), some (.int v1), some (.int v2), some (.int a3.1)], [], a3.2, 0)) = (fun (v1 : Int32) (v2 : Int32) (a3 : (Int32 × Mem)) => some (.inl ((br (!decide (a3.1 < (a3.2.1 2 2))) 87 3 (45)), [some (.ref 2), some (.int v1), some (.int v2), some (.int a3.1)], [], a3.2, 0))) := by rfl
set_option maxRecDepth 100000 in
theorem b_X1_begins_5 : (fun (v1 : Int32) (v2 : Int32) (a3 : (Int32 × Mem)) => run C_X1_begins 13 (90, [some (.ref 2), some (.int v1), some (.int v2), some (.int a3.1)], [], a3.2, 0)) = (fun (v1 : Int32) (v2 : Int32) (a3 : (Int32 × Mem)) => some (.inl ((br (!decide ((d_X1_multiple (2 : Int32) a3.1 ((d_X7_lay 3 36 a3.1 (d_X1_multiple (-1 : Int32) a3.1 a3.2)) a3.2)) = 0)) 110 3 (16)), [some (.ref 2), some (.int v1), some (.int v2), some (.int a3.1)], [], ((d_X7_lay 3 36 a3.1 (d_X1_multiple (-1 : Int32) a3.1 a3.2)) a3.2), 0))) := by rfl
set_option maxRecDepth 100000 in
theorem b_X1_begins_6 : (fun (v1 : Int32) (v2 : Int32) (a3 : (Int32 × Mem)) => run C_X1_begins 7 (113, [some (.ref 2), some (.int v1), some (.int v2), some (.int a3.1)], [], ((d_X7_lay 3 36 a3.1 (d_X1_multiple (-1 : Int32) a3.1 a3.2)) a3.2), 0)) = (fun (v1 : Int32) (v2 : Int32) (a3 : (Int32 × Mem)) => some (.inl (126, [some (.ref 2), some (.int v1), some (.int v2), some (.int a3.1)], [], (sL ((d_X7_lay 3 36 a3.1 (d_X1_multiple (-1 : Int32) a3.1 a3.2)) a3.2) 2 5 ((((d_X7_lay 3 36 a3.1 (d_X1_multiple (-1 : Int32) a3.1 a3.2)) a3.2).2 2 5) ||| (d_X7_bit a3.1))), 0))) := by rfl
theorem m_X1_begins_0 (v1 : Int32) (v2 : Int32) (a3 : (Int32 × Mem)) : Rto C_X1_begins (90, [some (.ref 2), some (.int v1), some (.int v2), some (.int a3.1)], [], a3.2, 0) (126, [some (.ref 2), some (.int v1), some (.int v2), some (.int a3.1)], [], (if (d_X1_multiple (2 : Int32) a3.1 ((d_X7_lay 3 36 a3.1 (d_X1_multiple (-1 : Int32) a3.1 a3.2)) a3.2)) = 0 then (sL ((d_X7_lay 3 36 a3.1 (d_X1_multiple (-1 : Int32) a3.1 a3.2)) a3.2) 2 5 ((((d_X7_lay 3 36 a3.1 (d_X1_multiple (-1 : Int32) a3.1 a3.2)) a3.2).2 2 5) ||| (d_X7_bit a3.1))) else ((d_X7_lay 3 36 a3.1 (d_X1_multiple (-1 : Int32) a3.1 a3.2)) a3.2)), 0) := by
  refine Rto.trans (Rto.run 13 (congrFun (congrFun (congrFun b_X1_begins_5 v1) v2) a3)) ?_
  by_cases h : (d_X1_multiple (2 : Int32) a3.1 ((d_X7_lay 3 36 a3.1 (d_X1_multiple (-1 : Int32) a3.1 a3.2)) a3.2)) = 0
  · refine Rto.trans (Rto.brNF (q := 113) h rfl) ?_
    refine Rto.trans (Rto.run 7 (congrFun (congrFun (congrFun b_X1_begins_6 v1) v2) a3)) ?_
    exact Rto.eq (by first | (simp only [if_pos h]; done) | rfl | exact absurd rfl h | (simp; done))
  · refine Rto.trans (Rto.brNT (q := 126) h rfl) ?_
    exact Rto.eq (by first | (simp only [if_neg h]; done) | rfl | exact absurd rfl h | (simp; done))
set_option maxRecDepth 100000 in
theorem b_X1_begins_7 : (fun (v1 : Int32) (v2 : Int32) (a3 : (Int32 × Mem)) => run C_X1_begins 2 (126, [some (.ref 2), some (.int v1), some (.int v2), some (.int a3.1)], [], (if (d_X1_multiple (2 : Int32) a3.1 ((d_X7_lay 3 36 a3.1 (d_X1_multiple (-1 : Int32) a3.1 a3.2)) a3.2)) = 0 then (sL ((d_X7_lay 3 36 a3.1 (d_X1_multiple (-1 : Int32) a3.1 a3.2)) a3.2) 2 5 ((((d_X7_lay 3 36 a3.1 (d_X1_multiple (-1 : Int32) a3.1 a3.2)) a3.2).2 2 5) ||| (d_X7_bit a3.1))) else ((d_X7_lay 3 36 a3.1 (d_X1_multiple (-1 : Int32) a3.1 a3.2)) a3.2)), 0)) = (fun (v1 : Int32) (v2 : Int32) (a3 : (Int32 × Mem)) => some (.inl (82, [some (.ref 2), some (.int v1), some (.int v2), some (.int (a3.1 + (1 : Int32)))], [], (if (d_X1_multiple (2 : Int32) a3.1 ((d_X7_lay 3 36 a3.1 (d_X1_multiple (-1 : Int32) a3.1 a3.2)) a3.2)) = 0 then (sL ((d_X7_lay 3 36 a3.1 (d_X1_multiple (-1 : Int32) a3.1 a3.2)) a3.2) 2 5 ((((d_X7_lay 3 36 a3.1 (d_X1_multiple (-1 : Int32) a3.1 a3.2)) a3.2).2 2 5) ||| (d_X7_bit a3.1))) else ((d_X7_lay 3 36 a3.1 (d_X1_multiple (-1 : Int32) a3.1 a3.2)) a3.2)), 0))) := by rfl
set_option maxHeartbeats 2000000 in
theorem l_X1_begins_3 (v1 : Int32) (v2 : Int32) (M : Mem) (a2 : (Int32 × Mem)) : ∀ a3 : Int32 × Mem, RG C_X1_begins ((fun (a3 : Int32 × Mem) => (82, [some (.ref 2), some (.int v1), some (.int v2), some (.int a3.1)], [], a3.2, 0)) a3) (g_X1_begin_3 a3) (lpP (fun (a3 : Int32 × Mem) => (82, [some (.ref 2), some (.int v1), some (.int v2), some (.int a3.1)], [], a3.2, 0)) (fun (a3 : Int32 × Mem) => (132, [some (.ref 2), some (.int v1), some (.int v2), some (.int a3.1)], [], a3.2, 0)) id) := by
  intro a3
  unfold g_X1_begin_3
  show RG C_X1_begins (82, [some (.ref 2), some (.int v1), some (.int v2), some (.int a3.1)], [], a3.2, 0) _ _
  refine RG.st 4 (congrFun (congrFun (congrFun b_X1_begins_4 v1) v2) a3) ?_
  refine RG.ite (fun h2 => RG.brNF (q := 90) h2 rfl ?_) (fun h2 => RG.brNT (q := 132) h2 rfl ?_)
  · refine RG.step (m_X1_begins_0 v1 v2 a3) ?_
    refine RG.st 2 (congrFun (congrFun (congrFun b_X1_begins_7 v1) v2) a3) ?_
    exact RG.to rfl (Rto.refl _)
  · exact RG.to rfl (Rto.refl _)
set_option maxRecDepth 100000 in
theorem b_X1_begins_8 : (fun (v1 : Int32) (v2 : Int32) (a4 : (Int32 × Mem)) => run C_X1_begins 1 (132, [some (.ref 2), some (.int v1), some (.int v2), some (.int a4.1)], [], a4.2, 0)) = (fun (v1 : Int32) (v2 : Int32) (a4 : (Int32 × Mem)) => some (.inr (.inl none, a4.2, 0))) := by rfl
set_option maxHeartbeats 2000000 in
theorem r_X1_begins (v1 : Int32) (v2 : Int32) (M : Mem) : RG C_X1_begins (0, [some (.ref 2), some (.int v1), some (.int v2), none], [], M, 0) (d_X1_begin v1 v2 M) (fun r => .inr r) := by
  unfold d_X1_begin
  refine RG.st 25 (congrFun (congrFun (congrFun b_X1_begins_0 v1) v2) M) ?_
  refine RG.loop (hd := (fun (a1 : Int32 × Mem) => (43, [some (.ref 2), some (.int v1), some (.int v2), some (.int a1.1)], [], a1.2, 0))) (ex := (fun (a1 : Int32 × Mem) => (75, [some (.ref 2), some (.int v1), some (.int v2), some (.int a1.1)], [], a1.2, 0))) (rt := id) (l_X1_begins_1 v1 v2 M) (fun a2 => ?_) (fun r v h => by cases h; rfl)
  show RG C_X1_begins (75, [some (.ref 2), some (.int v1), some (.int v2), some (.int a2.1)], [], a2.2, 0) _ _
  refine RG.st 5 (congrFun (congrFun (congrFun b_X1_begins_3 v1) v2) a2) ?_
  refine RG.loop (hd := (fun (a3 : Int32 × Mem) => (82, [some (.ref 2), some (.int v1), some (.int v2), some (.int a3.1)], [], a3.2, 0))) (ex := (fun (a3 : Int32 × Mem) => (132, [some (.ref 2), some (.int v1), some (.int v2), some (.int a3.1)], [], a3.2, 0))) (rt := id) (l_X1_begins_3 v1 v2 M a2) (fun a4 => ?_) (fun r v h => by cases h; rfl)
  show RG C_X1_begins (132, [some (.ref 2), some (.int v1), some (.int v2), some (.int a4.1)], [], a4.2, 0) _ _
  exact RG.fin rfl (Rend.run 1 (congrFun (congrFun (congrFun b_X1_begins_8 v1) v2) a4))
theorem cfg_X1_begins : CfgOK RX1 cX1_begin (C_X1_begins) 3 := ⟨tk_X1_begin, csS_nd, flk_X1, (List.forall_mem_cons.mpr ⟨Or.inr ⟨yX7_bit, cX7_bit, 1, (some .long), none, 1, ok_X7_bits, by decide, by decide, w_code_Sumsetry_bit__I_J, w_initialized_Sumsetry, ⟨by decide, by decide⟩, Or.inr (Or.inl ⟨rfl, rfl, show (parseMethodDescriptor yX7_bit.desc).map (fun d => d.parameters.length) = some 1 from by decide +kernel, ⟨"Sumsetry", by decide +kernel⟩, w_static_Sumsetry_bit__I_J⟩)⟩,
    List.forall_mem_cons.mpr ⟨Or.inr ⟨yX1_multiple, cX1_multiple, 3, (some .int), none, 2, ok_X1_multipleS, by decide, by decide, w_code_Sumsetry_Group_multiple__II_I, w_initialized_Sumsetry_Group, ⟨by decide, by decide⟩, Or.inr (Or.inr ⟨rfl, rfl, show (parseMethodDescriptor yX1_multiple.desc).map (fun d => d.parameters.length + 1) = some 3 from by decide +kernel, w_methodLink_Sumsetry_Group_43, w_instanceMethod_Sumsetry_Group_multiple__II_I, w_selects_Sumsetry_Group_multiple__II_I, ⟨_, rfl, rfl⟩⟩)⟩,
    List.forall_mem_cons.mpr ⟨Or.inr ⟨yX7_lay, cX7_lay, 3, none, none, 1, ok_X7_lays, by decide, by decide, w_code_Sumsetry_lay___III_V, w_initialized_Sumsetry, ⟨by decide, by decide⟩, Or.inr (Or.inl ⟨rfl, rfl, show (parseMethodDescriptor yX7_lay.desc).map (fun d => d.parameters.length) = some 3 from by decide +kernel, ⟨"Sumsetry", by decide +kernel⟩, w_static_Sumsetry_lay___III_V⟩)⟩, fun _ h => absurd h List.not_mem_nil⟩⟩⟩), ink_X1, lgk_X1, fun e h => absurd h List.not_mem_nil, (fun h hh => absurd hh List.not_mem_nil)⟩
theorem ok_X1_begins : OkM csS yX1_begin (Cond.code yX1_begin cX1_begin 4 none) 3 0 fn_X1_begin :=
  OkM_of (own := RX1) (C := C_X1_begins) (by decide +kernel) rfl (cfg_X1_begins) rfl rfl rfl rfl (by
    intro av M o M' h
    unfold fn_X1_begin at h
    split at h
    · rename_i r0 v1 v2
      rcases bif_cs h with ⟨hb, h⟩ | ⟨-, h⟩
      · skip
        have hr0 := hb
        obtain rfl := Nat.eq_of_beq_eq_true hr0
        exact ⟨rfl, Nat.le_of_ble_eq_true rfl, (r_X1_begins v1 v2 M) (o, M') h⟩
      · cases h
    · cases h)
