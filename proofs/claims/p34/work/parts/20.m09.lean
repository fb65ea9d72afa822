/-! methods: X7_combine, X7_move, X7_elements, X7_ways, X7_popular, X7_energy, X7_energyAnew, X7_stabilizer -/
def t_X7_combine : List (Nat × Instr × Nat) := [(0, .aload_n 0, 1), (1, .iload_n 2, 1), (2, .invokevirtual 98, 3), (5, .aload_n 0, 1), (6, .iload_n 3, 1), (7, .invokevirtual 98, 3), (10, .iconst 0, 1), (11, .iload_n 1, 1), (12, .iconst 5, 1), (13, .invokestatic 52, 3), (16, .ifCond .ne 13, 3), (19, .new 56, 3), (22, .dup, 1), (23, .ldc 101, 2), (25, .invokespecial 60, 3), (28, .athrow, 1), (29, .aload_n 0, 1), (30, .aload_n 0, 1), (31, .iload_n 1, 1), (32, .aload_n 0, 1), (33, .iload_n 2, 1), (34, .invokevirtual 103, 3), (37, .aload_n 0, 1), (38, .iload_n 3, 1), (39, .invokevirtual 103, 3), (42, .invokevirtual 107, 3), (45, .invokevirtual 94, 3), (48, .ireturn, 1)]
theorem tk_X7_combine : ∀ x ∈ t_X7_combine, decode cX7_combine x.1 = .ok x.2 := by decide +kernel
def C_X7_combine : Cfg := (t_X7_combine, csF, fl_X7, [(52, 0, 5, 3, 0, fn_X7_isFrom), (94, 2, 5, 2, 1, fn_X7_keepSet), (98, 2, 5, 2, 1, fn_X7_needSet), (103, 2, 5, 2, 0, fn_X7_bitsOf), (107, 2, 5, 4, 0, fn_X7_combined)], in_X7, lg_X7, [(19, "java/lang/IllegalArgumentException", 56, 101, 60, "no such way to combine")], [], none, (some .int), 3)
set_option maxRecDepth 100000 in
theorem b_X7_combine_0 : (fun (v1 : Int32) (v2 : Int32) (v3 : Int32) (M : Mem) => run C_X7_combine 2 (0, [some (.ref 0), some (.int v1), some (.int v2), some (.int v3)], [], M, 0)) = (fun (v1 : Int32) (v2 : Int32) (v3 : Int32) (M : Mem) => some (.inl (2, [some (.ref 0), some (.int v1), some (.int v2), some (.int v3)], [.int v2, .ref 0], M, 0))) := by rfl
set_option maxRecDepth 100000 in
theorem b_X7_combine_1 : (fun (v1 : Int32) (v2 : Int32) (v3 : Int32) (M1 : Mem) => run C_X7_combine 2 (5, [some (.ref 0), some (.int v1), some (.int v2), some (.int v3)], [], M1, 1)) = (fun (v1 : Int32) (v2 : Int32) (v3 : Int32) (M1 : Mem) => some (.inl (7, [some (.ref 0), some (.int v1), some (.int v2), some (.int v3)], [.int v3, .ref 0], M1, 1))) := by rfl
set_option maxRecDepth 100000 in
theorem b_X7_combine_2 : (fun (v1 : Int32) (v2 : Int32) (v3 : Int32) (M2 : Mem) => run C_X7_combine 5 (10, [some (.ref 0), some (.int v1), some (.int v2), some (.int v3)], [], M2, 2)) = (fun (v1 : Int32) (v2 : Int32) (v3 : Int32) (M2 : Mem) => some (.inl ((br (!decide ((d_X7_isFrom (0 : Int32) v1 (5 : Int32)) = 0)) 16 3 (13)), [some (.ref 0), some (.int v1), some (.int v2), some (.int v3)], [], M2, 2))) := by rfl
set_option maxRecDepth 100000 in
theorem b_X7_combine_3 : (fun (v1 : Int32) (v2 : Int32) (v3 : Int32) (M2 : Mem) => run C_X7_combine 1 (19, [some (.ref 0), some (.int v1), some (.int v2), some (.int v3)], [], M2, 2)) = (fun (v1 : Int32) (v2 : Int32) (v3 : Int32) (M2 : Mem) => some (.inr (.inr "java/lang/IllegalArgumentException", M2, 3))) := by rfl
set_option maxRecDepth 100000 in
theorem b_X7_combine_4 : (fun (v1 : Int32) (v2 : Int32) (v3 : Int32) (M2 : Mem) => run C_X7_combine 9 (29, [some (.ref 0), some (.int v1), some (.int v2), some (.int v3)], [], M2, 2)) = (fun (v1 : Int32) (v2 : Int32) (v3 : Int32) (M2 : Mem) => some (.inl (42, [some (.ref 0), some (.int v1), some (.int v2), some (.int v3)], [.long (d_X7_bitsOf v3 M2), .long (d_X7_bitsOf v2 M2), .int v1, .ref 0, .ref 0], M2, 2))) := by rfl
set_option maxRecDepth 100000 in
theorem b_X7_combine_5 : (fun (v1 : Int32) (v2 : Int32) (v3 : Int32) (w5 : Int32) (M4 : Mem) => run C_X7_combine 1 (48, [some (.ref 0), some (.int v1), some (.int v2), some (.int v3)], [.int w5], M4, 3)) = (fun (v1 : Int32) (v2 : Int32) (v3 : Int32) (w5 : Int32) (M4 : Mem) => some (.inr (.inl (some (.int w5)), M4, 3))) := by rfl
def d_X7_combine (v1 : Int32) (v2 : Int32) (v3 : Int32) (M : Mem) : Option (Res × Mem) := (onV (d_X7_needSet v2 M) (fun M1 => (onV (d_X7_needSet v3 M1) (fun M2 => (if (d_X7_isFrom (0 : Int32) v1 (5 : Int32)) = 0 then some (.inr "java/lang/IllegalArgumentException", M2) else ((d_X7_combined v1 (d_X7_bitsOf v2 M2) (d_X7_bitsOf v3 M2) M2).bind fun w3 => (onI (d_X7_keepSet w3 M2) (fun w5 M4 => some (.inl (some (.int w5)), M4)) (fun r => some r))))) (fun r => some r))) (fun r => some r))
set_option maxHeartbeats 2000000 in
theorem r_X7_combine (v1 : Int32) (v2 : Int32) (v3 : Int32) (M : Mem) : RG C_X7_combine (0, [some (.ref 0), some (.int v1), some (.int v2), some (.int v3)], [], M, 0) (d_X7_combine v1 v2 v3 M) (fun r => .inr r) := by
  unfold d_X7_combine
  refine RG.st 2 (congrFun (congrFun (congrFun (congrFun b_X7_combine_0 v1) v2) v3) M) ?_
  refine RG.callV (fun M1 h1 => RG.st 1 (run_callV (v := none) rfl rfl rfl rfl rfl h1) ?_) (fun E M1 h1 => RG.fin rfl (Rend.run 1 (run_callVx rfl rfl rfl rfl rfl h1 rfl)))
  show RG C_X7_combine (5, [some (.ref 0), some (.int v1), some (.int v2), some (.int v3)], [], M1, 1) _ _
  refine RG.st 2 (congrFun (congrFun (congrFun (congrFun b_X7_combine_1 v1) v2) v3) M1) ?_
  refine RG.callV (fun M2 h2 => RG.st 1 (run_callV (v := none) rfl rfl rfl rfl rfl h2) ?_) (fun E M2 h2 => RG.fin rfl (Rend.run 1 (run_callVx rfl rfl rfl rfl rfl h2 rfl)))
  show RG C_X7_combine (10, [some (.ref 0), some (.int v1), some (.int v2), some (.int v3)], [], M2, 2) _ _
  refine RG.st 5 (congrFun (congrFun (congrFun (congrFun b_X7_combine_2 v1) v2) v3) M2) ?_
  refine RG.ite (fun h3 => RG.brNF (q := 19) h3 rfl ?_) (fun h3 => RG.brNT (q := 29) h3 rfl ?_)
  · exact RG.fin rfl (Rend.run 1 (congrFun (congrFun (congrFun (congrFun b_X7_combine_3 v1) v2) v3) M2))
  · refine RG.st 9 (congrFun (congrFun (congrFun (congrFun b_X7_combine_4 v1) v2) v3) M2) ?_
    refine RG.bind (fun w3 h4 => RG.st 1 (run_callV (v := some (.long w3)) rfl rfl rfl rfl rfl (bindL h4)) ?_)
    show RG C_X7_combine (45, [some (.ref 0), some (.int v1), some (.int v2), some (.int v3)], [.long w3, .ref 0], M2, 2) _ _
    refine RG.callI (fun w5 M4 h5 => RG.st 1 (run_callV (v := (some (.int w5))) rfl rfl rfl rfl rfl h5) ?_) (fun E M4 h5 => RG.fin rfl (Rend.run 1 (run_callVx rfl rfl rfl rfl rfl h5 rfl)))
    show RG C_X7_combine (48, [some (.ref 0), some (.int v1), some (.int v2), some (.int v3)], [.int w5], M4, 3) _ _
    exact RG.fin rfl (Rend.run 1 (congrFun (congrFun (congrFun (congrFun (congrFun b_X7_combine_5 v1) v2) v3) w5) M4))
def fn_X7_combine : Fn := fun av M => match av with
  | [.ref r0, .int v1, .int v2, .int v3] => bif Nat.beq r0 0 then (d_X7_combine v1 v2 v3 M) else (none)
  | _ => none
theorem cfg_X7_combine : CfgOK RX7 cX7_combine (C_X7_combine) 7 := ⟨tk_X7_combine, csF_nd, flk_X7, (List.forall_mem_cons.mpr ⟨Or.inr ⟨yX7_isFrom, cX7_isFrom, 3, (some .boolean), none, 1, ok_X7_isFrom, by decide, by decide, w_code_Sumsetry_isFrom__III_Z, w_initialized_Sumsetry, ⟨by decide, by decide⟩, Or.inl ⟨rfl, show (parseMethodDescriptor yX7_isFrom.desc).map (fun d => d.parameters.length) = some 3 from by decide +kernel, w_methodLink_Sumsetry_52, w_static_Sumsetry_isFrom__III_Z⟩⟩,
    List.forall_mem_cons.mpr ⟨Or.inr ⟨yX7_keepSet, cX7_keepSet, 3, (some .int), none, 6, ok_X7_keepSet, by decide, by decide, w_code_Sumsetry_keepSet__J_I, w_initialized_Sumsetry, ⟨by decide, by decide⟩, Or.inr (Or.inr ⟨rfl, rfl, show (parseMethodDescriptor yX7_keepSet.desc).map (fun d => d.parameters.length + 1) = some 2 from by decide +kernel, w_methodLink_Sumsetry_94, w_instanceMethod_Sumsetry_keepSet__J_I, w_selects_Sumsetry_keepSet__J_I, ⟨_, rfl, rfl⟩⟩)⟩,
    List.forall_mem_cons.mpr ⟨Or.inr ⟨yX7_needSet, cX7_needSet, 2, none, none, 6, ok_X7_needSet, by decide, by decide, w_code_Sumsetry_needSet__I_V, w_initialized_Sumsetry, ⟨by decide, by decide⟩, Or.inr (Or.inr ⟨rfl, rfl, show (parseMethodDescriptor yX7_needSet.desc).map (fun d => d.parameters.length + 1) = some 2 from by decide +kernel, w_methodLink_Sumsetry_98, w_instanceMethod_Sumsetry_needSet__I_V, w_selects_Sumsetry_needSet__I_V, ⟨_, rfl, rfl⟩⟩)⟩,
    List.forall_mem_cons.mpr ⟨Or.inr ⟨yX7_bitsOf, cX7_bitsOf, 2, (some .long), none, 1, ok_X7_bitsOf, by decide, by decide, w_code_Sumsetry_bitsOf__I_J, w_initialized_Sumsetry, ⟨by decide, by decide⟩, Or.inr (Or.inr ⟨rfl, rfl, show (parseMethodDescriptor yX7_bitsOf.desc).map (fun d => d.parameters.length + 1) = some 2 from by decide +kernel, w_methodLink_Sumsetry_103, w_instanceMethod_Sumsetry_bitsOf__I_J, w_selects_Sumsetry_bitsOf__I_J, ⟨_, rfl, rfl⟩⟩)⟩,
    List.forall_mem_cons.mpr ⟨Or.inr ⟨yX7_combined, cX7_combined, 6, (some .long), none, 6, ok_X7_combined, by decide, by decide, w_code_Sumsetry_combined__IJJ_J, w_initialized_Sumsetry, ⟨by decide, by decide⟩, Or.inr (Or.inr ⟨rfl, rfl, show (parseMethodDescriptor yX7_combined.desc).map (fun d => d.parameters.length + 1) = some 4 from by decide +kernel, w_methodLink_Sumsetry_107, w_instanceMethod_Sumsetry_combined__IJJ_J, w_selects_Sumsetry_combined__IJJ_J, ⟨_, rfl, rfl⟩⟩)⟩, fun _ h => absurd h List.not_mem_nil⟩⟩⟩⟩⟩), ink_X7, lgk_X7, by decide +kernel, (fun h hh => absurd hh List.not_mem_nil)⟩
theorem ok_X7_combine : OkM csF yX7_combine (Cond.code yX7_combine cX7_combine 4 (some .int)) 7 3 fn_X7_combine :=
  OkM_of (own := RX7) (C := C_X7_combine) (by decide +kernel) rfl (cfg_X7_combine) rfl rfl rfl rfl (by
    intro av M o M' h
    unfold fn_X7_combine at h
    split at h
    · rename_i r0 v1 v2 v3
      rcases bif_cs h with ⟨hb, h⟩ | ⟨-, h⟩
      · skip
        have hr0 := hb
        obtain rfl := Nat.eq_of_beq_eq_true hr0
        exact ⟨rfl, Nat.le_of_ble_eq_true rfl, (r_X7_combine v1 v2 v3 M) (o, M') h⟩
      · cases h
    · cases h)
def t_X7_move : List (Nat × Instr × Nat) := [(0, .aload_n 0, 1), (1, .iload_n 1, 1), (2, .invokevirtual 98, 3), (5, .aload_n 0, 1), (6, .iload_n 3, 1), (7, .invokevirtual 76, 3), (10, .bipush (-100), 2), (12, .iload_n 2, 1), (13, .bipush 100, 2), (15, .invokestatic 52, 3), (18, .ifCond .ne 13, 3), (21, .new 56, 3), (24, .dup, 1), (25, .ldc 111, 2), (27, .invokespecial 60, 3), (30, .athrow, 1), (31, .aload_n 0, 1), (32, .aload_n 0, 1), (33, .getfield 10, 3), (36, .aload_n 0, 1), (37, .getfield 10, 3), (40, .iload_n 2, 1), (41, .aload_n 0, 1), (42, .iload_n 1, 1), (43, .invokevirtual 103, 3), (46, .invokevirtual 113, 3), (49, .iload_n 3, 1), (50, .invokevirtual 117, 3), (53, .invokevirtual 94, 3), (56, .ireturn, 1)]
theorem tk_X7_move : ∀ x ∈ t_X7_move, decode cX7_move x.1 = .ok x.2 := by decide +kernel
def C_X7_move : Cfg := (t_X7_move, csF, fl_X7, [(52, 0, 5, 3, 0, fn_X7_isFrom), (76, 2, 5, 2, 1, fn_X7_needElement), (94, 2, 5, 2, 1, fn_X7_keepSet), (98, 2, 5, 2, 1, fn_X7_needSet), (103, 2, 5, 2, 0, fn_X7_bitsOf), (113, 2, 1, 3, 0, fn_X1_multiples), (117, 2, 1, 3, 0, fn_X1_shifted)], in_X7, lg_X7, [(21, "java/lang/IllegalArgumentException", 56, 111, 60, "times out of range")], [], none, (some .int), 3)
set_option maxRecDepth 100000 in
theorem b_X7_move_0 : (fun (v1 : Int32) (v2 : Int32) (v3 : Int32) (M : Mem) => run C_X7_move 2 (0, [some (.ref 0), some (.int v1), some (.int v2), some (.int v3)], [], M, 0)) = (fun (v1 : Int32) (v2 : Int32) (v3 : Int32) (M : Mem) => some (.inl (2, [some (.ref 0), some (.int v1), some (.int v2), some (.int v3)], [.int v1, .ref 0], M, 0))) := by rfl
set_option maxRecDepth 100000 in
theorem b_X7_move_1 : (fun (v1 : Int32) (v2 : Int32) (v3 : Int32) (M1 : Mem) => run C_X7_move 2 (5, [some (.ref 0), some (.int v1), some (.int v2), some (.int v3)], [], M1, 1)) = (fun (v1 : Int32) (v2 : Int32) (v3 : Int32) (M1 : Mem) => some (.inl (7, [some (.ref 0), some (.int v1), some (.int v2), some (.int v3)], [.int v3, .ref 0], M1, 1))) := by rfl
set_option maxRecDepth 100000 in
theorem b_X7_move_2 : (fun (v1 : Int32) (v2 : Int32) (v3 : Int32) (M2 : Mem) => run C_X7_move 5 (10, [some (.ref 0), some (.int v1), some (.int v2), some (.int v3)], [], M2, 2)) = (fun (v1 : Int32) (v2 : Int32) (v3 : Int32) (M2 : Mem) => some (.inl ((br (!decide ((d_X7_isFrom (-100 : Int32) v2 (100 : Int32)) = 0)) 18 3 (13)), [some (.ref 0), some (.int v1), some (.int v2), some (.int v3)], [], M2, 2))) := by rfl
set_option maxRecDepth 100000 in
theorem b_X7_move_3 : (fun (v1 : Int32) (v2 : Int32) (v3 : Int32) (M2 : Mem) => run C_X7_move 1 (21, [some (.ref 0), some (.int v1), some (.int v2), some (.int v3)], [], M2, 2)) = (fun (v1 : Int32) (v2 : Int32) (v3 : Int32) (M2 : Mem) => some (.inr (.inr "java/lang/IllegalArgumentException", M2, 3))) := by rfl
set_option maxRecDepth 100000 in
theorem b_X7_move_4 : (fun (v1 : Int32) (v2 : Int32) (v3 : Int32) (M2 : Mem) => run C_X7_move 9 (31, [some (.ref 0), some (.int v1), some (.int v2), some (.int v3)], [], M2, 2)) = (fun (v1 : Int32) (v2 : Int32) (v3 : Int32) (M2 : Mem) => some (.inl (46, [some (.ref 0), some (.int v1), some (.int v2), some (.int v3)], [.long (d_X7_bitsOf v1 M2), .int v2, .ref 2, .ref 2, .ref 0], M2, 2))) := by rfl
set_option maxRecDepth 100000 in
theorem b_X7_move_5 : (fun (v1 : Int32) (v2 : Int32) (v3 : Int32) (M2 : Mem) (w3 : Int64) => run C_X7_move 2 (49, [some (.ref 0), some (.int v1), some (.int v2), some (.int v3)], [.long w3, .ref 2, .ref 0], M2, 2)) = (fun (v1 : Int32) (v2 : Int32) (v3 : Int32) (M2 : Mem) (w3 : Int64) => some (.inl (53, [some (.ref 0), some (.int v1), some (.int v2), some (.int v3)], [.long (d_X1_shifted w3 v3 M2), .ref 0], M2, 2))) := by rfl
set_option maxRecDepth 100000 in
theorem b_X7_move_6 : (fun (v1 : Int32) (v2 : Int32) (v3 : Int32) (w5 : Int32) (M4 : Mem) => run C_X7_move 1 (56, [some (.ref 0), some (.int v1), some (.int v2), some (.int v3)], [.int w5], M4, 3)) = (fun (v1 : Int32) (v2 : Int32) (v3 : Int32) (w5 : Int32) (M4 : Mem) => some (.inr (.inl (some (.int w5)), M4, 3))) := by rfl
def d_X7_move (v1 : Int32) (v2 : Int32) (v3 : Int32) (M : Mem) : Option (Res × Mem) := (onV (d_X7_needSet v1 M) (fun M1 => (onV (d_X7_needElement v3 M1) (fun M2 => (if (d_X7_isFrom (-100 : Int32) v2 (100 : Int32)) = 0 then some (.inr "java/lang/IllegalArgumentException", M2) else ((d_X1_multiples v2 (d_X7_bitsOf v1 M2) M2).bind fun w3 => (onI (d_X7_keepSet (d_X1_shifted w3 v3 M2) M2) (fun w5 M4 => some (.inl (some (.int w5)), M4)) (fun r => some r))))) (fun r => some r))) (fun r => some r))
set_option maxHeartbeats 2000000 in
theorem r_X7_move (v1 : Int32) (v2 : Int32) (v3 : Int32) (M : Mem) : RG C_X7_move (0, [some (.ref 0), some (.int v1), some (.int v2), some (.int v3)], [], M, 0) (d_X7_move v1 v2 v3 M) (fun r => .inr r) := by
  unfold d_X7_move
  refine RG.st 2 (congrFun (congrFun (congrFun (congrFun b_X7_move_0 v1) v2) v3) M) ?_
  refine RG.callV (fun M1 h1 => RG.st 1 (run_callV (v := none) rfl rfl rfl rfl rfl h1) ?_) (fun E M1 h1 => RG.fin rfl (Rend.run 1 (run_callVx rfl rfl rfl rfl rfl h1 rfl)))
  show RG C_X7_move (5, [some (.ref 0), some (.int v1), some (.int v2), some (.int v3)], [], M1, 1) _ _
  refine RG.st 2 (congrFun (congrFun (congrFun (congrFun b_X7_move_1 v1) v2) v3) M1) ?_
  refine RG.callV (fun M2 h2 => RG.st 1 (run_callV (v := none) rfl rfl rfl rfl rfl h2) ?_) (fun E M2 h2 => RG.fin rfl (Rend.run 1 (run_callVx rfl rfl rfl rfl rfl h2 rfl)))
  show RG C_X7_move (10, [some (.ref 0), some (.int v1), some (.int v2), some (.int v3)], [], M2, 2) _ _
  refine RG.st 5 (congrFun (congrFun (congrFun (congrFun b_X7_move_2 v1) v2) v3) M2) ?_
  refine RG.ite (fun h3 => RG.brNF (q := 21) h3 rfl ?_) (fun h3 => RG.brNT (q := 31) h3 rfl ?_)
  · exact RG.fin rfl (Rend.run 1 (congrFun (congrFun (congrFun (congrFun b_X7_move_3 v1) v2) v3) M2))
  · refine RG.st 9 (congrFun (congrFun (congrFun (congrFun b_X7_move_4 v1) v2) v3) M2) ?_
    refine RG.bind (fun w3 h4 => RG.st 1 (run_callV (v := some (.long w3)) rfl rfl rfl rfl rfl (bindL h4)) ?_)
    show RG C_X7_move (49, [some (.ref 0), some (.int v1), some (.int v2), some (.int v3)], [.long w3, .ref 2, .ref 0], M2, 2) _ _
    refine RG.st 2 (congrFun (congrFun (congrFun (congrFun (congrFun b_X7_move_5 v1) v2) v3) M2) w3) ?_
    refine RG.callI (fun w5 M4 h5 => RG.st 1 (run_callV (v := (some (.int w5))) rfl rfl rfl rfl rfl h5) ?_) (fun E M4 h5 => RG.fin rfl (Rend.run 1 (run_callVx rfl rfl rfl rfl rfl h5 rfl)))
    show RG C_X7_move (56, [some (.ref 0), some (.int v1), some (.int v2), some (.int v3)], [.int w5], M4, 3) _ _
    exact RG.fin rfl (Rend.run 1 (congrFun (congrFun (congrFun (congrFun (congrFun b_X7_move_6 v1) v2) v3) w5) M4))
def fn_X7_move : Fn := fun av M => match av with
  | [.ref r0, .int v1, .int v2, .int v3] => bif Nat.beq r0 0 then (d_X7_move v1 v2 v3 M) else (none)
  | _ => none
theorem cfg_X7_move : CfgOK RX7 cX7_move (C_X7_move) 7 := ⟨tk_X7_move, csF_nd, flk_X7, (List.forall_mem_cons.mpr ⟨Or.inr ⟨yX7_isFrom, cX7_isFrom, 3, (some .boolean), none, 1, ok_X7_isFrom, by decide, by decide, w_code_Sumsetry_isFrom__III_Z, w_initialized_Sumsetry, ⟨by decide, by decide⟩, Or.inl ⟨rfl, show (parseMethodDescriptor yX7_isFrom.desc).map (fun d => d.parameters.length) = some 3 from by decide +kernel, w_methodLink_Sumsetry_52, w_static_Sumsetry_isFrom__III_Z⟩⟩,
    List.forall_mem_cons.mpr ⟨Or.inr ⟨yX7_needElement, cX7_needElement, 2, none, none, 6, ok_X7_needElement, by decide, by decide, w_code_Sumsetry_needElement__I_V, w_initialized_Sumsetry, ⟨by decide, by decide⟩, Or.inr (Or.inr ⟨rfl, rfl, show (parseMethodDescriptor yX7_needElement.desc).map (fun d => d.parameters.length + 1) = some 2 from by decide +kernel, w_methodLink_Sumsetry_76, w_instanceMethod_Sumsetry_needElement__I_V, w_selects_Sumsetry_needElement__I_V, ⟨_, rfl, rfl⟩⟩)⟩,
    List.forall_mem_cons.mpr ⟨Or.inr ⟨yX7_keepSet, cX7_keepSet, 3, (some .int), none, 6, ok_X7_keepSet, by decide, by decide, w_code_Sumsetry_keepSet__J_I, w_initialized_Sumsetry, ⟨by decide, by decide⟩, Or.inr (Or.inr ⟨rfl, rfl, show (parseMethodDescriptor yX7_keepSet.desc).map (fun d => d.parameters.length + 1) = some 2 from by decide +kernel, w_methodLink_Sumsetry_94, w_instanceMethod_Sumsetry_keepSet__J_I, w_selects_Sumsetry_keepSet__J_I, ⟨_, rfl, rfl⟩⟩)⟩,
    List.forall_mem_cons.mpr ⟨Or.inr ⟨yX7_needSet, cX7_needSet, 2, none, none, 6, ok_X7_needSet, by decide, by decide, w_code_Sumsetry_needSet__I_V, w_initialized_Sumsetry, ⟨by decide, by decide⟩, Or.inr (Or.inr ⟨rfl, rfl, show (parseMethodDescriptor yX7_needSet.desc).map (fun d => d.parameters.length + 1) = some 2 from by decide +kernel, w_methodLink_Sumsetry_98, w_instanceMethod_Sumsetry_needSet__I_V, w_selects_Sumsetry_needSet__I_V, ⟨_, rfl, rfl⟩⟩)⟩,
    List.forall_mem_cons.mpr ⟨Or.inr ⟨yX7_bitsOf, cX7_bitsOf, 2, (some .long), none, 1, ok_X7_bitsOf, by decide, by decide, w_code_Sumsetry_bitsOf__I_J, w_initialized_Sumsetry, ⟨by decide, by decide⟩, Or.inr (Or.inr ⟨rfl, rfl, show (parseMethodDescriptor yX7_bitsOf.desc).map (fun d => d.parameters.length + 1) = some 2 from by decide +kernel, w_methodLink_Sumsetry_103, w_instanceMethod_Sumsetry_bitsOf__I_J, w_selects_Sumsetry_bitsOf__I_J, ⟨_, rfl, rfl⟩⟩)⟩,
    List.forall_mem_cons.mpr ⟨Or.inr ⟨yX1_multiples, cX1_multiples, 7, (some .long), none, 3, ok_X1_multiples, by decide, by decide, w_code_Sumsetry_Group_multiples__IJ_J, w_initialized_Sumsetry_Group, ⟨by decide, by decide⟩, Or.inr (Or.inr ⟨rfl, rfl, show (parseMethodDescriptor yX1_multiples.desc).map (fun d => d.parameters.length + 1) = some 3 from by decide +kernel, w_methodLink_Sumsetry_113, w_instanceMethod_Sumsetry_Group_multiples__IJ_J, w_selects_Sumsetry_Group_multiples__IJ_J, ⟨_, rfl, rfl⟩⟩)⟩,
    List.forall_mem_cons.mpr ⟨Or.inr ⟨yX1_shifted, cX1_shifted, 10, (some .long), none, 2, ok_X1_shifted, by decide, by decide, w_code_Sumsetry_Group_shifted__JI_J, w_initialized_Sumsetry_Group, ⟨by decide, by decide⟩, Or.inr (Or.inr ⟨rfl, rfl, show (parseMethodDescriptor yX1_shifted.desc).map (fun d => d.parameters.length + 1) = some 3 from by decide +kernel, w_methodLink_Sumsetry_117, w_instanceMethod_Sumsetry_Group_shifted__JI_J, w_selects_Sumsetry_Group_shifted__JI_J, ⟨_, rfl, rfl⟩⟩)⟩, fun _ h => absurd h List.not_mem_nil⟩⟩⟩⟩⟩⟩⟩), ink_X7, lgk_X7, by decide +kernel, (fun h hh => absurd hh List.not_mem_nil)⟩
theorem ok_X7_move : OkM csF yX7_move (Cond.code yX7_move cX7_move 4 (some .int)) 7 3 fn_X7_move :=
  OkM_of (own := RX7) (C := C_X7_move) (by decide +kernel) rfl (cfg_X7_move) rfl rfl rfl rfl (by
    intro av M o M' h
    unfold fn_X7_move at h
    split at h
    · rename_i r0 v1 v2 v3
      rcases bif_cs h with ⟨hb, h⟩ | ⟨-, h⟩
      · skip
        have hr0 := hb
        obtain rfl := Nat.eq_of_beq_eq_true hr0
        exact ⟨rfl, Nat.le_of_ble_eq_true rfl, (r_X7_move v1 v2 v3 M) (o, M') h⟩
      · cases h
    · cases h)
def t_X7_elements : List (Nat × Instr × Nat) := [(0, .aload_n 0, 1), (1, .iload_n 1, 1), (2, .invokevirtual 98, 3), (5, .aload_n 0, 1), (6, .iload_n 1, 1), (7, .invokevirtual 103, 3), (10, .lreturn, 1)]
theorem tk_X7_elements : ∀ x ∈ t_X7_elements, decode cX7_elements x.1 = .ok x.2 := by decide +kernel
def C_X7_elements : Cfg := (t_X7_elements, csF, fl_X7, [(98, 2, 5, 2, 1, fn_X7_needSet), (103, 2, 5, 2, 0, fn_X7_bitsOf)], in_X7, lg_X7, [], [], none, (some .long), 1)
set_option maxRecDepth 100000 in
theorem b_X7_elements_0 : (fun (v1 : Int32) (M : Mem) => run C_X7_elements 2 (0, [some (.ref 0), some (.int v1)], [], M, 0)) = (fun (v1 : Int32) (M : Mem) => some (.inl (2, [some (.ref 0), some (.int v1)], [.int v1, .ref 0], M, 0))) := by rfl
set_option maxRecDepth 100000 in
theorem b_X7_elements_1 : (fun (v1 : Int32) (M1 : Mem) => run C_X7_elements 4 (5, [some (.ref 0), some (.int v1)], [], M1, 1)) = (fun (v1 : Int32) (M1 : Mem) => some (.inr (.inl (some (.long (d_X7_bitsOf v1 M1))), M1, 1))) := by rfl
def d_X7_elements (v1 : Int32) (M : Mem) : Option (Res × Mem) := (onV (d_X7_needSet v1 M) (fun M1 => some (.inl (some (.long (d_X7_bitsOf v1 M1))), M1)) (fun r => some r))
set_option maxHeartbeats 2000000 in
theorem r_X7_elements (v1 : Int32) (M : Mem) : RG C_X7_elements (0, [some (.ref 0), some (.int v1)], [], M, 0) (d_X7_elements v1 M) (fun r => .inr r) := by
  unfold d_X7_elements
  refine RG.st 2 (congrFun (congrFun b_X7_elements_0 v1) M) ?_
  refine RG.callV (fun M1 h1 => RG.st 1 (run_callV (v := none) rfl rfl rfl rfl rfl h1) ?_) (fun E M1 h1 => RG.fin rfl (Rend.run 1 (run_callVx rfl rfl rfl rfl rfl h1 rfl)))
  show RG C_X7_elements (5, [some (.ref 0), some (.int v1)], [], M1, 1) _ _
  exact RG.fin rfl (Rend.run 4 (congrFun (congrFun b_X7_elements_1 v1) M1))
def fn_X7_elements : Fn := fun av M => match av with
  | [.ref r0, .int v1] => bif Nat.beq r0 0 then (d_X7_elements v1 M) else (none)
  | _ => none
theorem cfg_X7_elements : CfgOK RX7 cX7_elements (C_X7_elements) 7 := ⟨tk_X7_elements, csF_nd, flk_X7, (List.forall_mem_cons.mpr ⟨Or.inr ⟨yX7_needSet, cX7_needSet, 2, none, none, 6, ok_X7_needSet, by decide, by decide, w_code_Sumsetry_needSet__I_V, w_initialized_Sumsetry, ⟨by decide, by decide⟩, Or.inr (Or.inr ⟨rfl, rfl, show (parseMethodDescriptor yX7_needSet.desc).map (fun d => d.parameters.length + 1) = some 2 from by decide +kernel, w_methodLink_Sumsetry_98, w_instanceMethod_Sumsetry_needSet__I_V, w_selects_Sumsetry_needSet__I_V, ⟨_, rfl, rfl⟩⟩)⟩,
    List.forall_mem_cons.mpr ⟨Or.inr ⟨yX7_bitsOf, cX7_bitsOf, 2, (some .long), none, 1, ok_X7_bitsOf, by decide, by decide, w_code_Sumsetry_bitsOf__I_J, w_initialized_Sumsetry, ⟨by decide, by decide⟩, Or.inr (Or.inr ⟨rfl, rfl, show (parseMethodDescriptor yX7_bitsOf.desc).map (fun d => d.parameters.length + 1) = some 2 from by decide +kernel, w_methodLink_Sumsetry_103, w_instanceMethod_Sumsetry_bitsOf__I_J, w_selects_Sumsetry_bitsOf__I_J, ⟨_, rfl, rfl⟩⟩)⟩, fun _ h => absurd h List.not_mem_nil⟩⟩), ink_X7, lgk_X7, fun e h => absurd h List.not_mem_nil, (fun h hh => absurd hh List.not_mem_nil)⟩
theorem ok_X7_elements : OkM csF yX7_elements (Cond.code yX7_elements cX7_elements 2 (some .long)) 7 1 fn_X7_elements :=
  OkM_of (own := RX7) (C := C_X7_elements) (by decide +kernel) rfl (cfg_X7_elements) rfl rfl rfl rfl (by
    intro av M o M' h
    unfold fn_X7_elements at h
    split at h
    · rename_i r0 v1
      rcases bif_cs h with ⟨hb, h⟩ | ⟨-, h⟩
      · skip
        have hr0 := hb
        obtain rfl := Nat.eq_of_beq_eq_true hr0
        exact ⟨rfl, Nat.le_of_ble_eq_true rfl, (r_X7_elements v1 M) (o, M') h⟩
      · cases h
    · cases h)
def t_X7_ways : List (Nat × Instr × Nat) := [(0, .aload_n 0, 1), (1, .iload_n 1, 1), (2, .invokevirtual 98, 3), (5, .aload_n 0, 1), (6, .iload_n 2, 1), (7, .invokevirtual 98, 3), (10, .aload_n 0, 1), (11, .iload_n 3, 1), (12, .invokevirtual 76, 3), (15, .aload_n 0, 1), (16, .getfield 10, 3), (19, .iload_n 3, 1), (20, .aload_n 0, 1), (21, .iload_n 1, 1), (22, .invokevirtual 103, 3), (25, .aload_n 0, 1), (26, .iload_n 2, 1), (27, .invokevirtual 103, 3), (30, .invokevirtual 121, 3), (33, .ireturn, 1)]
theorem tk_X7_ways : ∀ x ∈ t_X7_ways, decode cX7_ways x.1 = .ok x.2 := by decide +kernel
def C_X7_ways : Cfg := (t_X7_ways, csF, fl_X7, [(76, 2, 5, 2, 1, fn_X7_needElement), (98, 2, 5, 2, 1, fn_X7_needSet), (103, 2, 5, 2, 0, fn_X7_bitsOf), (121, 2, 1, 4, 0, fn_X1_waysTo)], in_X7, lg_X7, [], [], none, (some .int), 3)
set_option maxRecDepth 100000 in
theorem b_X7_ways_0 : (fun (v1 : Int32) (v2 : Int32) (v3 : Int32) (M : Mem) => run C_X7_ways 2 (0, [some (.ref 0), some (.int v1), some (.int v2), some (.int v3)], [], M, 0)) = (fun (v1 : Int32) (v2 : Int32) (v3 : Int32) (M : Mem) => some (.inl (2, [some (.ref 0), some (.int v1), some (.int v2), some (.int v3)], [.int v1, .ref 0], M, 0))) := by rfl
set_option maxRecDepth 100000 in
theorem b_X7_ways_1 : (fun (v1 : Int32) (v2 : Int32) (v3 : Int32) (M1 : Mem) => run C_X7_ways 2 (5, [some (.ref 0), some (.int v1), some (.int v2), some (.int v3)], [], M1, 1)) = (fun (v1 : Int32) (v2 : Int32) (v3 : Int32) (M1 : Mem) => some (.inl (7, [some (.ref 0), some (.int v1), some (.int v2), some (.int v3)], [.int v2, .ref 0], M1, 1))) := by rfl
set_option maxRecDepth 100000 in
theorem b_X7_ways_2 : (fun (v1 : Int32) (v2 : Int32) (v3 : Int32) (M2 : Mem) => run C_X7_ways 2 (10, [some (.ref 0), some (.int v1), some (.int v2), some (.int v3)], [], M2, 2)) = (fun (v1 : Int32) (v2 : Int32) (v3 : Int32) (M2 : Mem) => some (.inl (12, [some (.ref 0), some (.int v1), some (.int v2), some (.int v3)], [.int v3, .ref 0], M2, 2))) := by rfl
set_option maxRecDepth 100000 in
theorem b_X7_ways_3 : (fun (v1 : Int32) (v2 : Int32) (v3 : Int32) (M3 : Mem) => run C_X7_ways 9 (15, [some (.ref 0), some (.int v1), some (.int v2), some (.int v3)], [], M3, 3)) = (fun (v1 : Int32) (v2 : Int32) (v3 : Int32) (M3 : Mem) => some (.inl (30, [some (.ref 0), some (.int v1), some (.int v2), some (.int v3)], [.long (d_X7_bitsOf v2 M3), .long (d_X7_bitsOf v1 M3), .int v3, .ref 2], M3, 3))) := by rfl
set_option maxRecDepth 100000 in
theorem b_X7_ways_4 : (fun (v1 : Int32) (v2 : Int32) (v3 : Int32) (M3 : Mem) (w4 : Int32) => run C_X7_ways 1 (33, [some (.ref 0), some (.int v1), some (.int v2), some (.int v3)], [.int w4], M3, 3)) = (fun (v1 : Int32) (v2 : Int32) (v3 : Int32) (M3 : Mem) (w4 : Int32) => some (.inr (.inl (some (.int w4)), M3, 3))) := by rfl
def d_X7_ways (v1 : Int32) (v2 : Int32) (v3 : Int32) (M : Mem) : Option (Res × Mem) := (onV (d_X7_needSet v1 M) (fun M1 => (onV (d_X7_needSet v2 M1) (fun M2 => (onV (d_X7_needElement v3 M2) (fun M3 => ((d_X1_waysTo v3 (d_X7_bitsOf v1 M3) (d_X7_bitsOf v2 M3) M3).bind fun w4 => some (.inl (some (.int w4)), M3))) (fun r => some r))) (fun r => some r))) (fun r => some r))
set_option maxHeartbeats 2000000 in
theorem r_X7_ways (v1 : Int32) (v2 : Int32) (v3 : Int32) (M : Mem) : RG C_X7_ways (0, [some (.ref 0), some (.int v1), some (.int v2), some (.int v3)], [], M, 0) (d_X7_ways v1 v2 v3 M) (fun r => .inr r) := by
  unfold d_X7_ways
  refine RG.st 2 (congrFun (congrFun (congrFun (congrFun b_X7_ways_0 v1) v2) v3) M) ?_
  refine RG.callV (fun M1 h1 => RG.st 1 (run_callV (v := none) rfl rfl rfl rfl rfl h1) ?_) (fun E M1 h1 => RG.fin rfl (Rend.run 1 (run_callVx rfl rfl rfl rfl rfl h1 rfl)))
  show RG C_X7_ways (5, [some (.ref 0), some (.int v1), some (.int v2), some (.int v3)], [], M1, 1) _ _
  refine RG.st 2 (congrFun (congrFun (congrFun (congrFun b_X7_ways_1 v1) v2) v3) M1) ?_
  refine RG.callV (fun M2 h2 => RG.st 1 (run_callV (v := none) rfl rfl rfl rfl rfl h2) ?_) (fun E M2 h2 => RG.fin rfl (Rend.run 1 (run_callVx rfl rfl rfl rfl rfl h2 rfl)))
  show RG C_X7_ways (10, [some (.ref 0), some (.int v1), some (.int v2), some (.int v3)], [], M2, 2) _ _
  refine RG.st 2 (congrFun (congrFun (congrFun (congrFun b_X7_ways_2 v1) v2) v3) M2) ?_
  refine RG.callV (fun M3 h3 => RG.st 1 (run_callV (v := none) rfl rfl rfl rfl rfl h3) ?_) (fun E M3 h3 => RG.fin rfl (Rend.run 1 (run_callVx rfl rfl rfl rfl rfl h3 rfl)))
  show RG C_X7_ways (15, [some (.ref 0), some (.int v1), some (.int v2), some (.int v3)], [], M3, 3) _ _
  refine RG.st 9 (congrFun (congrFun (congrFun (congrFun b_X7_ways_3 v1) v2) v3) M3) ?_
  refine RG.bind (fun w4 h4 => RG.st 1 (run_callV (v := some (.int w4)) rfl rfl rfl rfl rfl (bindI h4)) ?_)
  show RG C_X7_ways (33, [some (.ref 0), some (.int v1), some (.int v2), some (.int v3)], [.int w4], M3, 3) _ _
  exact RG.fin rfl (Rend.run 1 (congrFun (congrFun (congrFun (congrFun (congrFun b_X7_ways_4 v1) v2) v3) M3) w4))
def fn_X7_ways : Fn := fun av M => match av with
  | [.ref r0, .int v1, .int v2, .int v3] => bif Nat.beq r0 0 then (d_X7_ways v1 v2 v3 M) else (none)
  | _ => none
theorem cfg_X7_ways : CfgOK RX7 cX7_ways (C_X7_ways) 7 := ⟨tk_X7_ways, csF_nd, flk_X7, (List.forall_mem_cons.mpr ⟨Or.inr ⟨yX7_needElement, cX7_needElement, 2, none, none, 6, ok_X7_needElement, by decide, by decide, w_code_Sumsetry_needElement__I_V, w_initialized_Sumsetry, ⟨by decide, by decide⟩, Or.inr (Or.inr ⟨rfl, rfl, show (parseMethodDescriptor yX7_needElement.desc).map (fun d => d.parameters.length + 1) = some 2 from by decide +kernel, w_methodLink_Sumsetry_76, w_instanceMethod_Sumsetry_needElement__I_V, w_selects_Sumsetry_needElement__I_V, ⟨_, rfl, rfl⟩⟩)⟩,
    List.forall_mem_cons.mpr ⟨Or.inr ⟨yX7_needSet, cX7_needSet, 2, none, none, 6, ok_X7_needSet, by decide, by decide, w_code_Sumsetry_needSet__I_V, w_initialized_Sumsetry, ⟨by decide, by decide⟩, Or.inr (Or.inr ⟨rfl, rfl, show (parseMethodDescriptor yX7_needSet.desc).map (fun d => d.parameters.length + 1) = some 2 from by decide +kernel, w_methodLink_Sumsetry_98, w_instanceMethod_Sumsetry_needSet__I_V, w_selects_Sumsetry_needSet__I_V, ⟨_, rfl, rfl⟩⟩)⟩,
    List.forall_mem_cons.mpr ⟨Or.inr ⟨yX7_bitsOf, cX7_bitsOf, 2, (some .long), none, 1, ok_X7_bitsOf, by decide, by decide, w_code_Sumsetry_bitsOf__I_J, w_initialized_Sumsetry, ⟨by decide, by decide⟩, Or.inr (Or.inr ⟨rfl, rfl, show (parseMethodDescriptor yX7_bitsOf.desc).map (fun d => d.parameters.length + 1) = some 2 from by decide +kernel, w_methodLink_Sumsetry_103, w_instanceMethod_Sumsetry_bitsOf__I_J, w_selects_Sumsetry_bitsOf__I_J, ⟨_, rfl, rfl⟩⟩)⟩,
    List.forall_mem_cons.mpr ⟨Or.inr ⟨yX1_waysTo, cX1_waysTo, 6, (some .int), none, 5, ok_X1_waysTo, by decide, by decide, w_code_Sumsetry_Group_waysTo__IJJ_I, w_initialized_Sumsetry_Group, ⟨by decide, by decide⟩, Or.inr (Or.inr ⟨rfl, rfl, show (parseMethodDescriptor yX1_waysTo.desc).map (fun d => d.parameters.length + 1) = some 4 from by decide +kernel, w_methodLink_Sumsetry_121, w_instanceMethod_Sumsetry_Group_waysTo__IJJ_I, w_selects_Sumsetry_Group_waysTo__IJJ_I, ⟨_, rfl, rfl⟩⟩)⟩, fun _ h => absurd h List.not_mem_nil⟩⟩⟩⟩), ink_X7, lgk_X7, fun e h => absurd h List.not_mem_nil, (fun h hh => absurd hh List.not_mem_nil)⟩
theorem ok_X7_ways : OkM csF yX7_ways (Cond.code yX7_ways cX7_ways 4 (some .int)) 7 3 fn_X7_ways :=
  OkM_of (own := RX7) (C := C_X7_ways) (by decide +kernel) rfl (cfg_X7_ways) rfl rfl rfl rfl (by
    intro av M o M' h
    unfold fn_X7_ways at h
    split at h
    · rename_i r0 v1 v2 v3
      rcases bif_cs h with ⟨hb, h⟩ | ⟨-, h⟩
      · skip
        have hr0 := hb
        obtain rfl := Nat.eq_of_beq_eq_true hr0
        exact ⟨rfl, Nat.le_of_ble_eq_true rfl, (r_X7_ways v1 v2 v3 M) (o, M') h⟩
      · cases h
    · cases h)
def t_X7_popular : List (Nat × Instr × Nat) := [(0, .aload_n 0, 1), (1, .iload_n 1, 1), (2, .invokevirtual 98, 3), (5, .aload_n 0, 1), (6, .iload_n 2, 1), (7, .invokevirtual 98, 3), (10, .iconst 1, 1), (11, .iload_n 3, 1), (12, .bipush 36, 2), (14, .invokestatic 52, 3), (17, .ifCond .ne 13, 3), (20, .new 56, 3), (23, .dup, 1), (24, .ldc 125, 2), (26, .invokespecial 60, 3), (29, .athrow, 1), (30, .lconst 0, 1), (31, .lstore 4, 2), (33, .iconst 0, 1), (34, .istore 6, 2), (36, .iload 6, 2), (38, .aload_n 0, 1), (39, .getfield 10, 3), (42, .getfield 73, 3), (45, .if_icmp .ge 42, 3), (48, .aload_n 0, 1), (49, .getfield 10, 3), (52, .iload 6, 2), (54, .aload_n 0, 1), (55, .iload_n 1, 1), (56, .invokevirtual 103, 3), (59, .aload_n 0, 1), (60, .iload_n 2, 1), (61, .invokevirtual 103, 3), (64, .invokevirtual 121, 3), (67, .iload_n 3, 1), (68, .if_icmp .lt 13, 3), (71, .lload 4, 2), (73, .iload 6, 2), (75, .invokestatic 127, 3), (78, .lor, 1), (79, .lstore 4, 2), (81, .iinc 6 1, 3), (84, .goto (-48), 3), (87, .lload 4, 2), (89, .lreturn, 1)]
theorem tk_X7_popular : ∀ x ∈ t_X7_popular, decode cX7_popular x.1 = .ok x.2 := by decide +kernel
def C_X7_popular : Cfg := (t_X7_popular, csF, fl_X7, [(52, 0, 5, 3, 0, fn_X7_isFrom), (98, 2, 5, 2, 1, fn_X7_needSet), (103, 2, 5, 2, 0, fn_X7_bitsOf), (121, 2, 1, 4, 0, fn_X1_waysTo), (127, 0, 5, 1, 0, fn_X7_bit)], in_X7, lg_X7, [(20, "java/lang/IllegalArgumentException", 56, 125, 60, "least out of range")], [], none, (some .long), 3)
set_option maxRecDepth 100000 in
theorem b_X7_popular_0 : (fun (v1 : Int32) (v2 : Int32) (v3 : Int32) (M : Mem) => run C_X7_popular 2 (0, [some (.ref 0), some (.int v1), some (.int v2), some (.int v3), none, none, none], [], M, 0)) = (fun (v1 : Int32) (v2 : Int32) (v3 : Int32) (M : Mem) => some (.inl (2, [some (.ref 0), some (.int v1), some (.int v2), some (.int v3), none, none, none], [.int v1, .ref 0], M, 0))) := by rfl
set_option maxRecDepth 100000 in
theorem b_X7_popular_1 : (fun (v1 : Int32) (v2 : Int32) (v3 : Int32) (M1 : Mem) => run C_X7_popular 2 (5, [some (.ref 0), some (.int v1), some (.int v2), some (.int v3), none, none, none], [], M1, 1)) = (fun (v1 : Int32) (v2 : Int32) (v3 : Int32) (M1 : Mem) => some (.inl (7, [some (.ref 0), some (.int v1), some (.int v2), some (.int v3), none, none, none], [.int v2, .ref 0], M1, 1))) := by rfl
set_option maxRecDepth 100000 in
theorem b_X7_popular_2 : (fun (v1 : Int32) (v2 : Int32) (v3 : Int32) (M2 : Mem) => run C_X7_popular 5 (10, [some (.ref 0), some (.int v1), some (.int v2), some (.int v3), none, none, none], [], M2, 2)) = (fun (v1 : Int32) (v2 : Int32) (v3 : Int32) (M2 : Mem) => some (.inl ((br (!decide ((d_X7_isFrom (1 : Int32) v3 (36 : Int32)) = 0)) 17 3 (13)), [some (.ref 0), some (.int v1), some (.int v2), some (.int v3), none, none, none], [], M2, 2))) := by rfl
set_option maxRecDepth 100000 in
theorem b_X7_popular_3 : (fun (v1 : Int32) (v2 : Int32) (v3 : Int32) (M2 : Mem) => run C_X7_popular 1 (20, [some (.ref 0), some (.int v1), some (.int v2), some (.int v3), none, none, none], [], M2, 2)) = (fun (v1 : Int32) (v2 : Int32) (v3 : Int32) (M2 : Mem) => some (.inr (.inr "java/lang/IllegalArgumentException", M2, 3))) := by rfl
set_option maxRecDepth 100000 in
theorem b_X7_popular_4 : (fun (v1 : Int32) (v2 : Int32) (v3 : Int32) (M2 : Mem) => run C_X7_popular 4 (30, [some (.ref 0), some (.int v1), some (.int v2), some (.int v3), none, none, none], [], M2, 2)) = (fun (v1 : Int32) (v2 : Int32) (v3 : Int32) (M2 : Mem) => some (.inl (36, [some (.ref 0), some (.int v1), some (.int v2), some (.int v3), some (.long (0 : Int64)), none, some (.int (0 : Int32))], [], M2, 2))) := by rfl
set_option maxRecDepth 100000 in
theorem b_X7_popular_5 : (fun (v1 : Int32) (v2 : Int32) (v3 : Int32) (M2 : Mem) (a1 : (Int64 × Int32)) => run C_X7_popular 5 (36, [some (.ref 0), some (.int v1), some (.int v2), some (.int v3), some (.long a1.1), none, some (.int a1.2)], [], M2, 2)) = (fun (v1 : Int32) (v2 : Int32) (v3 : Int32) (M2 : Mem) (a1 : (Int64 × Int32)) => some (.inl ((br (!decide (a1.2 < (M2.1 2 2))) 45 3 (42)), [some (.ref 0), some (.int v1), some (.int v2), some (.int v3), some (.long a1.1), none, some (.int a1.2)], [], M2, 2))) := by rfl
set_option maxRecDepth 100000 in
theorem b_X7_popular_6 : (fun (v1 : Int32) (v2 : Int32) (v3 : Int32) (M2 : Mem) (a1 : (Int64 × Int32)) => run C_X7_popular 9 (48, [some (.ref 0), some (.int v1), some (.int v2), some (.int v3), some (.long a1.1), none, some (.int a1.2)], [], M2, 2)) = (fun (v1 : Int32) (v2 : Int32) (v3 : Int32) (M2 : Mem) (a1 : (Int64 × Int32)) => some (.inl (64, [some (.ref 0), some (.int v1), some (.int v2), some (.int v3), some (.long a1.1), none, some (.int a1.2)], [.long (d_X7_bitsOf v2 M2), .long (d_X7_bitsOf v1 M2), .int a1.2, .ref 2], M2, 2))) := by rfl
set_option maxRecDepth 100000 in
theorem b_X7_popular_7 : (fun (v1 : Int32) (v2 : Int32) (v3 : Int32) (M2 : Mem) (a1 : (Int64 × Int32)) (w3 : Int32) => run C_X7_popular 2 (67, [some (.ref 0), some (.int v1), some (.int v2), some (.int v3), some (.long a1.1), none, some (.int a1.2)], [.int w3], M2, 2)) = (fun (v1 : Int32) (v2 : Int32) (v3 : Int32) (M2 : Mem) (a1 : (Int64 × Int32)) (w3 : Int32) => some (.inl ((br (decide (w3 < v3)) 68 3 (13)), [some (.ref 0), some (.int v1), some (.int v2), some (.int v3), some (.long a1.1), none, some (.int a1.2)], [], M2, 2))) := by rfl
set_option maxRecDepth 100000 in
theorem b_X7_popular_8 : (fun (v1 : Int32) (v2 : Int32) (v3 : Int32) (M2 : Mem) (a1 : (Int64 × Int32)) => run C_X7_popular 5 (71, [some (.ref 0), some (.int v1), some (.int v2), some (.int v3), some (.long a1.1), none, some (.int a1.2)], [], M2, 2)) = (fun (v1 : Int32) (v2 : Int32) (v3 : Int32) (M2 : Mem) (a1 : (Int64 × Int32)) => some (.inl (81, [some (.ref 0), some (.int v1), some (.int v2), some (.int v3), some (.long (a1.1 ||| (d_X7_bit a1.2))), none, some (.int a1.2)], [], M2, 2))) := by rfl
theorem m_X7_popular_0 (v1 : Int32) (v2 : Int32) (v3 : Int32) (M2 : Mem) (a1 : (Int64 × Int32)) (w3 : Int32) : Rto C_X7_popular (67, [some (.ref 0), some (.int v1), some (.int v2), some (.int v3), some (.long a1.1), none, some (.int a1.2)], [.int w3], M2, 2) (81, [some (.ref 0), some (.int v1), some (.int v2), some (.int v3), some (.long (if w3 < v3 then a1.1 else (a1.1 ||| (d_X7_bit a1.2)))), none, some (.int a1.2)], [], M2, 2) := by
  refine Rto.trans (Rto.run 2 (congrFun (congrFun (congrFun (congrFun (congrFun (congrFun b_X7_popular_7 v1) v2) v3) M2) a1) w3)) ?_
  by_cases h : w3 < v3
  · refine Rto.trans (Rto.brT (q := 81) h rfl) ?_
    exact Rto.eq (by first | (simp only [if_pos h]; done) | rfl | exact absurd rfl h | (simp; done))
  · refine Rto.trans (Rto.brF (q := 71) h rfl) ?_
    refine Rto.trans (Rto.run 5 (congrFun (congrFun (congrFun (congrFun (congrFun b_X7_popular_8 v1) v2) v3) M2) a1)) ?_
    exact Rto.eq (by first | (simp only [if_neg h]; done) | rfl | exact absurd rfl h | (simp; done))
set_option maxRecDepth 100000 in
theorem b_X7_popular_9 : (fun (v1 : Int32) (v2 : Int32) (v3 : Int32) (M2 : Mem) (a1 : (Int64 × Int32)) (w3 : Int32) => run C_X7_popular 2 (81, [some (.ref 0), some (.int v1), some (.int v2), some (.int v3), some (.long (if w3 < v3 then a1.1 else (a1.1 ||| (d_X7_bit a1.2)))), none, some (.int a1.2)], [], M2, 2)) = (fun (v1 : Int32) (v2 : Int32) (v3 : Int32) (M2 : Mem) (a1 : (Int64 × Int32)) (w3 : Int32) => some (.inl (36, [some (.ref 0), some (.int v1), some (.int v2), some (.int v3), some (.long (if w3 < v3 then a1.1 else (a1.1 ||| (d_X7_bit a1.2)))), none, some (.int (a1.2 + (1 : Int32)))], [], M2, 2))) := by rfl
def g_X7_popular_1 (v1 : Int32) (v2 : Int32) (v3 : Int32) (M2 : Mem) : Int64 × Int32 → Option ((Int64 × Int32) ⊕ ((Int64 × Int32) ⊕ (Res × Mem))) := fun (a1 : Int64 × Int32) => (if a1.2 < (M2.1 2 2) then ((d_X1_waysTo a1.2 (d_X7_bitsOf v1 M2) (d_X7_bitsOf v2 M2) M2).bind fun w3 => some (.inl ((if w3 < v3 then a1.1 else (a1.1 ||| (d_X7_bit a1.2))), (a1.2 + (1 : Int32))))) else some (.inr (.inl (a1.1, a1.2))))
set_option maxHeartbeats 2000000 in
theorem l_X7_popular_1 (v1 : Int32) (v2 : Int32) (v3 : Int32) (M : Mem) (M2 : Mem) : ∀ a1 : Int64 × Int32, RG C_X7_popular ((fun (a1 : Int64 × Int32) => (36, [some (.ref 0), some (.int v1), some (.int v2), some (.int v3), some (.long a1.1), none, some (.int a1.2)], [], M2, 2)) a1) (g_X7_popular_1 v1 v2 v3 M2 a1) (lpP (fun (a1 : Int64 × Int32) => (36, [some (.ref 0), some (.int v1), some (.int v2), some (.int v3), some (.long a1.1), none, some (.int a1.2)], [], M2, 2)) (fun (a1 : Int64 × Int32) => (87, [some (.ref 0), some (.int v1), some (.int v2), some (.int v3), some (.long a1.1), none, some (.int a1.2)], [], M2, 2)) id) := by
  intro a1
  unfold g_X7_popular_1
  show RG C_X7_popular (36, [some (.ref 0), some (.int v1), some (.int v2), some (.int v3), some (.long a1.1), none, some (.int a1.2)], [], M2, 2) _ _
  refine RG.st 5 (congrFun (congrFun (congrFun (congrFun (congrFun b_X7_popular_5 v1) v2) v3) M2) a1) ?_
  refine RG.ite (fun h4 => RG.brNF (q := 48) h4 rfl ?_) (fun h4 => RG.brNT (q := 87) h4 rfl ?_)
  · refine RG.st 9 (congrFun (congrFun (congrFun (congrFun (congrFun b_X7_popular_6 v1) v2) v3) M2) a1) ?_
    refine RG.bind (fun w3 h5 => RG.st 1 (run_callV (v := some (.int w3)) rfl rfl rfl rfl rfl (bindI h5)) ?_)
    show RG C_X7_popular (67, [some (.ref 0), some (.int v1), some (.int v2), some (.int v3), some (.long a1.1), none, some (.int a1.2)], [.int w3], M2, 2) _ _
    refine RG.step (m_X7_popular_0 v1 v2 v3 M2 a1 w3) ?_
    refine RG.st 2 (congrFun (congrFun (congrFun (congrFun (congrFun (congrFun b_X7_popular_9 v1) v2) v3) M2) a1) w3) ?_
    exact RG.to rfl (Rto.refl _)
  · exact RG.to rfl (Rto.refl _)
set_option maxRecDepth 100000 in
theorem b_X7_popular_10 : (fun (v1 : Int32) (v2 : Int32) (v3 : Int32) (M2 : Mem) (a2 : (Int64 × Int32)) => run C_X7_popular 2 (87, [some (.ref 0), some (.int v1), some (.int v2), some (.int v3), some (.long a2.1), none, some (.int a2.2)], [], M2, 2)) = (fun (v1 : Int32) (v2 : Int32) (v3 : Int32) (M2 : Mem) (a2 : (Int64 × Int32)) => some (.inr (.inl (some (.long a2.1)), M2, 2))) := by rfl
def d_X7_popular (v1 : Int32) (v2 : Int32) (v3 : Int32) (M : Mem) : Option (Res × Mem) := (onV (d_X7_needSet v1 M) (fun M1 => (onV (d_X7_needSet v2 M1) (fun M2 => (if (d_X7_isFrom (1 : Int32) v3 (36 : Int32)) = 0 then some (.inr "java/lang/IllegalArgumentException", M2) else (onIt (iter (g_X7_popular_1 v1 v2 v3 M2) 20000 ((0 : Int64), (0 : Int32))) (fun (a2 : Int64 × Int32) => some (.inl (some (.long a2.1)), M2)) (fun r => some r)))) (fun r => some r))) (fun r => some r))
set_option maxHeartbeats 2000000 in
theorem r_X7_popular (v1 : Int32) (v2 : Int32) (v3 : Int32) (M : Mem) : RG C_X7_popular (0, [some (.ref 0), some (.int v1), some (.int v2), some (.int v3), none, none, none], [], M, 0) (d_X7_popular v1 v2 v3 M) (fun r => .inr r) := by
  unfold d_X7_popular
  refine RG.st 2 (congrFun (congrFun (congrFun (congrFun b_X7_popular_0 v1) v2) v3) M) ?_
  refine RG.callV (fun M1 h1 => RG.st 1 (run_callV (v := none) rfl rfl rfl rfl rfl h1) ?_) (fun E M1 h1 => RG.fin rfl (Rend.run 1 (run_callVx rfl rfl rfl rfl rfl h1 rfl)))
  show RG C_X7_popular (5, [some (.ref 0), some (.int v1), some (.int v2), some (.int v3), none, none, none], [], M1, 1) _ _
  refine RG.st 2 (congrFun (congrFun (congrFun (congrFun b_X7_popular_1 v1) v2) v3) M1) ?_
  refine RG.callV (fun M2 h2 => RG.st 1 (run_callV (v := none) rfl rfl rfl rfl rfl h2) ?_) (fun E M2 h2 => RG.fin rfl (Rend.run 1 (run_callVx rfl rfl rfl rfl rfl h2 rfl)))
  show RG C_X7_popular (10, [some (.ref 0), some (.int v1), some (.int v2), some (.int v3), none, none, none], [], M2, 2) _ _
  refine RG.st 5 (congrFun (congrFun (congrFun (congrFun b_X7_popular_2 v1) v2) v3) M2) ?_
  refine RG.ite (fun h3 => RG.brNF (q := 20) h3 rfl ?_) (fun h3 => RG.brNT (q := 30) h3 rfl ?_)
  · exact RG.fin rfl (Rend.run 1 (congrFun (congrFun (congrFun (congrFun b_X7_popular_3 v1) v2) v3) M2))
  · refine RG.st 4 (congrFun (congrFun (congrFun (congrFun b_X7_popular_4 v1) v2) v3) M2) ?_
    refine RG.loop (hd := (fun (a1 : Int64 × Int32) => (36, [some (.ref 0), some (.int v1), some (.int v2), some (.int v3), some (.long a1.1), none, some (.int a1.2)], [], M2, 2))) (ex := (fun (a1 : Int64 × Int32) => (87, [some (.ref 0), some (.int v1), some (.int v2), some (.int v3), some (.long a1.1), none, some (.int a1.2)], [], M2, 2))) (rt := id) (l_X7_popular_1 v1 v2 v3 M M2) (fun a2 => ?_) (fun r v h => by cases h; rfl)
    show RG C_X7_popular (87, [some (.ref 0), some (.int v1), some (.int v2), some (.int v3), some (.long a2.1), none, some (.int a2.2)], [], M2, 2) _ _
    exact RG.fin rfl (Rend.run 2 (congrFun (congrFun (congrFun (congrFun (congrFun b_X7_popular_10 v1) v2) v3) M2) a2))
def fn_X7_popular : Fn := fun av M => match av with
  | [.ref r0, .int v1, .int v2, .int v3] => bif Nat.beq r0 0 then (d_X7_popular v1 v2 v3 M) else (none)
  | _ => none
theorem cfg_X7_popular : CfgOK RX7 cX7_popular (C_X7_popular) 7 := ⟨tk_X7_popular, csF_nd, flk_X7, (List.forall_mem_cons.mpr ⟨Or.inr ⟨yX7_isFrom, cX7_isFrom, 3, (some .boolean), none, 1, ok_X7_isFrom, by decide, by decide, w_code_Sumsetry_isFrom__III_Z, w_initialized_Sumsetry, ⟨by decide, by decide⟩, Or.inl ⟨rfl, show (parseMethodDescriptor yX7_isFrom.desc).map (fun d => d.parameters.length) = some 3 from by decide +kernel, w_methodLink_Sumsetry_52, w_static_Sumsetry_isFrom__III_Z⟩⟩,
    List.forall_mem_cons.mpr ⟨Or.inr ⟨yX7_needSet, cX7_needSet, 2, none, none, 6, ok_X7_needSet, by decide, by decide, w_code_Sumsetry_needSet__I_V, w_initialized_Sumsetry, ⟨by decide, by decide⟩, Or.inr (Or.inr ⟨rfl, rfl, show (parseMethodDescriptor yX7_needSet.desc).map (fun d => d.parameters.length + 1) = some 2 from by decide +kernel, w_methodLink_Sumsetry_98, w_instanceMethod_Sumsetry_needSet__I_V, w_selects_Sumsetry_needSet__I_V, ⟨_, rfl, rfl⟩⟩)⟩,
    List.forall_mem_cons.mpr ⟨Or.inr ⟨yX7_bitsOf, cX7_bitsOf, 2, (some .long), none, 1, ok_X7_bitsOf, by decide, by decide, w_code_Sumsetry_bitsOf__I_J, w_initialized_Sumsetry, ⟨by decide, by decide⟩, Or.inr (Or.inr ⟨rfl, rfl, show (parseMethodDescriptor yX7_bitsOf.desc).map (fun d => d.parameters.length + 1) = some 2 from by decide +kernel, w_methodLink_Sumsetry_103, w_instanceMethod_Sumsetry_bitsOf__I_J, w_selects_Sumsetry_bitsOf__I_J, ⟨_, rfl, rfl⟩⟩)⟩,
    List.forall_mem_cons.mpr ⟨Or.inr ⟨yX1_waysTo, cX1_waysTo, 6, (some .int), none, 5, ok_X1_waysTo, by decide, by decide, w_code_Sumsetry_Group_waysTo__IJJ_I, w_initialized_Sumsetry_Group, ⟨by decide, by decide⟩, Or.inr (Or.inr ⟨rfl, rfl, show (parseMethodDescriptor yX1_waysTo.desc).map (fun d => d.parameters.length + 1) = some 4 from by decide +kernel, w_methodLink_Sumsetry_121, w_instanceMethod_Sumsetry_Group_waysTo__IJJ_I, w_selects_Sumsetry_Group_waysTo__IJJ_I, ⟨_, rfl, rfl⟩⟩)⟩,
    List.forall_mem_cons.mpr ⟨Or.inr ⟨yX7_bit, cX7_bit, 1, (some .long), none, 1, ok_X7_bit, by decide, by decide, w_code_Sumsetry_bit__I_J, w_initialized_Sumsetry, ⟨by decide, by decide⟩, Or.inl ⟨rfl, show (parseMethodDescriptor yX7_bit.desc).map (fun d => d.parameters.length) = some 1 from by decide +kernel, w_methodLink_Sumsetry_127, w_static_Sumsetry_bit__I_J⟩⟩, fun _ h => absurd h List.not_mem_nil⟩⟩⟩⟩⟩), ink_X7, lgk_X7, by decide +kernel, (fun h hh => absurd hh List.not_mem_nil)⟩
theorem ok_X7_popular : OkM csF yX7_popular (Cond.code yX7_popular cX7_popular 7 (some .long)) 7 3 fn_X7_popular :=
  OkM_of (own := RX7) (C := C_X7_popular) (by decide +kernel) rfl (cfg_X7_popular) rfl rfl rfl rfl (by
    intro av M o M' h
    unfold fn_X7_popular at h
    split at h
    · rename_i r0 v1 v2 v3
      rcases bif_cs h with ⟨hb, h⟩ | ⟨-, h⟩
      · skip
        have hr0 := hb
        obtain rfl := Nat.eq_of_beq_eq_true hr0
        exact ⟨rfl, Nat.le_of_ble_eq_true rfl, (r_X7_popular v1 v2 v3 M) (o, M') h⟩
      · cases h
    · cases h)
def t_X7_energy : List (Nat × Instr × Nat) := [(0, .aload_n 0, 1), (1, .iload_n 1, 1), (2, .invokevirtual 98, 3), (5, .aload_n 0, 1), (6, .iload_n 2, 1), (7, .invokevirtual 98, 3), (10, .iconst 0, 1), (11, .istore_n 3, 1), (12, .iconst 0, 1), (13, .istore 4, 2), (15, .iload 4, 2), (17, .aload_n 0, 1), (18, .getfield 10, 3), (21, .getfield 73, 3), (24, .if_icmp .ge 38, 3), (27, .aload_n 0, 1), (28, .getfield 10, 3), (31, .iload 4, 2), (33, .aload_n 0, 1), (34, .iload_n 1, 1), (35, .invokevirtual 103, 3), (38, .aload_n 0, 1), (39, .iload_n 2, 1), (40, .invokevirtual 103, 3), (43, .invokevirtual 121, 3), (46, .istore 5, 2), (48, .iload_n 3, 1), (49, .iload 5, 2), (51, .iload 5, 2), (53, .imul, 1), (54, .iadd, 1), (55, .istore_n 3, 1), (56, .iinc 4 1, 3), (59, .goto (-44), 3), (62, .iload_n 3, 1), (63, .ireturn, 1)]
theorem tk_X7_energy : ∀ x ∈ t_X7_energy, decode cX7_energy x.1 = .ok x.2 := by decide +kernel
def C_X7_energy : Cfg := (t_X7_energy, csF, fl_X7, [(98, 2, 5, 2, 1, fn_X7_needSet), (103, 2, 5, 2, 0, fn_X7_bitsOf), (121, 2, 1, 4, 0, fn_X1_waysTo)], in_X7, lg_X7, [], [], none, (some .int), 2)
set_option maxRecDepth 100000 in
theorem b_X7_energy_0 : (fun (v1 : Int32) (v2 : Int32) (M : Mem) => run C_X7_energy 2 (0, [some (.ref 0), some (.int v1), some (.int v2), none, none, none], [], M, 0)) = (fun (v1 : Int32) (v2 : Int32) (M : Mem) => some (.inl (2, [some (.ref 0), some (.int v1), some (.int v2), none, none, none], [.int v1, .ref 0], M, 0))) := by rfl
set_option maxRecDepth 100000 in
theorem b_X7_energy_1 : (fun (v1 : Int32) (v2 : Int32) (M1 : Mem) => run C_X7_energy 2 (5, [some (.ref 0), some (.int v1), some (.int v2), none, none, none], [], M1, 1)) = (fun (v1 : Int32) (v2 : Int32) (M1 : Mem) => some (.inl (7, [some (.ref 0), some (.int v1), some (.int v2), none, none, none], [.int v2, .ref 0], M1, 1))) := by rfl
set_option maxRecDepth 100000 in
theorem b_X7_energy_2 : (fun (v1 : Int32) (v2 : Int32) (M2 : Mem) => run C_X7_energy 4 (10, [some (.ref 0), some (.int v1), some (.int v2), none, none, none], [], M2, 2)) = (fun (v1 : Int32) (v2 : Int32) (M2 : Mem) => some (.inl (15, [some (.ref 0), some (.int v1), some (.int v2), some (.int (0 : Int32)), some (.int (0 : Int32)), none], [], M2, 2))) := by rfl
set_option maxRecDepth 100000 in
theorem b_X7_energy_3 : (fun (v1 : Int32) (v2 : Int32) (M2 : Mem) (a1 : (Int32 × Int32)) => run C_X7_energy 5 (15, [some (.ref 0), some (.int v1), some (.int v2), some (.int a1.1), some (.int a1.2), none], [], M2, 2)) = (fun (v1 : Int32) (v2 : Int32) (M2 : Mem) (a1 : (Int32 × Int32)) => some (.inl ((br (!decide (a1.2 < (M2.1 2 2))) 24 3 (38)), [some (.ref 0), some (.int v1), some (.int v2), some (.int a1.1), some (.int a1.2), none], [], M2, 2))) := by rfl
set_option maxRecDepth 100000 in
theorem b_X7_energy_4 : (fun (v1 : Int32) (v2 : Int32) (M2 : Mem) (a1 : (Int32 × Int32)) => run C_X7_energy 9 (27, [some (.ref 0), some (.int v1), some (.int v2), some (.int a1.1), some (.int a1.2), none], [], M2, 2)) = (fun (v1 : Int32) (v2 : Int32) (M2 : Mem) (a1 : (Int32 × Int32)) => some (.inl (43, [some (.ref 0), some (.int v1), some (.int v2), some (.int a1.1), some (.int a1.2), none], [.long (d_X7_bitsOf v2 M2), .long (d_X7_bitsOf v1 M2), .int a1.2, .ref 2], M2, 2))) := by rfl
set_option maxRecDepth 100000 in
theorem b_X7_energy_5 : (fun (v1 : Int32) (v2 : Int32) (M2 : Mem) (a1 : (Int32 × Int32)) (w3 : Int32) => run C_X7_energy 9 (46, [some (.ref 0), some (.int v1), some (.int v2), some (.int a1.1), some (.int a1.2), none], [.int w3], M2, 2)) = (fun (v1 : Int32) (v2 : Int32) (M2 : Mem) (a1 : (Int32 × Int32)) (w3 : Int32) => some (.inl (15, [some (.ref 0), some (.int v1), some (.int v2), some (.int (a1.1 + (w3 * w3))), some (.int (a1.2 + (1 : Int32))), some (.int w3)], [], M2, 2))) := by rfl
def g_X7_energy_1 (v1 : Int32) (v2 : Int32) (M2 : Mem) : Int32 × Int32 → Option ((Int32 × Int32) ⊕ ((Int32 × Int32) ⊕ (Res × Mem))) := fun (a1 : Int32 × Int32) => (if a1.2 < (M2.1 2 2) then ((d_X1_waysTo a1.2 (d_X7_bitsOf v1 M2) (d_X7_bitsOf v2 M2) M2).bind fun w3 => some (.inl ((a1.1 + (w3 * w3)), (a1.2 + (1 : Int32))))) else some (.inr (.inl (a1.1, a1.2))))
set_option maxHeartbeats 2000000 in
theorem l_X7_energy_1 (v1 : Int32) (v2 : Int32) (M : Mem) (M2 : Mem) : ∀ a1 : Int32 × Int32, RG C_X7_energy ((fun (a1 : Int32 × Int32) => (15, [some (.ref 0), some (.int v1), some (.int v2), some (.int a1.1), some (.int a1.2), none], [], M2, 2)) a1) (g_X7_energy_1 v1 v2 M2 a1) (lpP (fun (a1 : Int32 × Int32) => (15, [some (.ref 0), some (.int v1), some (.int v2), some (.int a1.1), some (.int a1.2), none], [], M2, 2)) (fun (a1 : Int32 × Int32) => (62, [some (.ref 0), some (.int v1), some (.int v2), some (.int a1.1), some (.int a1.2), none], [], M2, 2)) id) := by
  intro a1
  unfold g_X7_energy_1
  show RG C_X7_energy (15, [some (.ref 0), some (.int v1), some (.int v2), some (.int a1.1), some (.int a1.2), none], [], M2, 2) _ _
  refine RG.st 5 (congrFun (congrFun (congrFun (congrFun b_X7_energy_3 v1) v2) M2) a1) ?_
  refine RG.ite (fun h3 => RG.brNF (q := 27) h3 rfl ?_) (fun h3 => RG.brNT (q := 62) h3 rfl ?_)
  · refine RG.st 9 (congrFun (congrFun (congrFun (congrFun b_X7_energy_4 v1) v2) M2) a1) ?_
    refine RG.bind (fun w3 h4 => RG.st 1 (run_callV (v := some (.int w3)) rfl rfl rfl rfl rfl (bindI h4)) ?_)
    show RG C_X7_energy (46, [some (.ref 0), some (.int v1), some (.int v2), some (.int a1.1), some (.int a1.2), none], [.int w3], M2, 2) _ _
    refine RG.st 9 (congrFun (congrFun (congrFun (congrFun (congrFun b_X7_energy_5 v1) v2) M2) a1) w3) ?_
    exact RG.to rfl (Rto.fgt [5] rfl)
  · exact RG.to rfl (Rto.refl _)
set_option maxRecDepth 100000 in
theorem b_X7_energy_6 : (fun (v1 : Int32) (v2 : Int32) (M2 : Mem) (a2 : (Int32 × Int32)) => run C_X7_energy 2 (62, [some (.ref 0), some (.int v1), some (.int v2), some (.int a2.1), some (.int a2.2), none], [], M2, 2)) = (fun (v1 : Int32) (v2 : Int32) (M2 : Mem) (a2 : (Int32 × Int32)) => some (.inr (.inl (some (.int a2.1)), M2, 2))) := by rfl
def d_X7_energy (v1 : Int32) (v2 : Int32) (M : Mem) : Option (Res × Mem) := (onV (d_X7_needSet v1 M) (fun M1 => (onV (d_X7_needSet v2 M1) (fun M2 => (onIt (iter (g_X7_energy_1 v1 v2 M2) 20000 ((0 : Int32), (0 : Int32))) (fun (a2 : Int32 × Int32) => some (.inl (some (.int a2.1)), M2)) (fun r => some r))) (fun r => some r))) (fun r => some r))
set_option maxHeartbeats 2000000 in
theorem r_X7_energy (v1 : Int32) (v2 : Int32) (M : Mem) : RG C_X7_energy (0, [some (.ref 0), some (.int v1), some (.int v2), none, none, none], [], M, 0) (d_X7_energy v1 v2 M) (fun r => .inr r) := by
  unfold d_X7_energy
  refine RG.st 2 (congrFun (congrFun (congrFun b_X7_energy_0 v1) v2) M) ?_
  refine RG.callV (fun M1 h1 => RG.st 1 (run_callV (v := none) rfl rfl rfl rfl rfl h1) ?_) (fun E M1 h1 => RG.fin rfl (Rend.run 1 (run_callVx rfl rfl rfl rfl rfl h1 rfl)))
  show RG C_X7_energy (5, [some (.ref 0), some (.int v1), some (.int v2), none, none, none], [], M1, 1) _ _
  refine RG.st 2 (congrFun (congrFun (congrFun b_X7_energy_1 v1) v2) M1) ?_
  refine RG.callV (fun M2 h2 => RG.st 1 (run_callV (v := none) rfl rfl rfl rfl rfl h2) ?_) (fun E M2 h2 => RG.fin rfl (Rend.run 1 (run_callVx rfl rfl rfl rfl rfl h2 rfl)))
  show RG C_X7_energy (10, [some (.ref 0), some (.int v1), some (.int v2), none, none, none], [], M2, 2) _ _
  refine RG.st 4 (congrFun (congrFun (congrFun b_X7_energy_2 v1) v2) M2) ?_
  refine RG.loop (hd := (fun (a1 : Int32 × Int32) => (15, [some (.ref 0), some (.int v1), some (.int v2), some (.int a1.1), some (.int a1.2), none], [], M2, 2))) (ex := (fun (a1 : Int32 × Int32) => (62, [some (.ref 0), some (.int v1), some (.int v2), some (.int a1.1), some (.int a1.2), none], [], M2, 2))) (rt := id) (l_X7_energy_1 v1 v2 M M2) (fun a2 => ?_) (fun r v h => by cases h; rfl)
  show RG C_X7_energy (62, [some (.ref 0), some (.int v1), some (.int v2), some (.int a2.1), some (.int a2.2), none], [], M2, 2) _ _
  exact RG.fin rfl (Rend.run 2 (congrFun (congrFun (congrFun (congrFun b_X7_energy_6 v1) v2) M2) a2))
def fn_X7_energy : Fn := fun av M => match av with
  | [.ref r0, .int v1, .int v2] => bif Nat.beq r0 0 then (d_X7_energy v1 v2 M) else (none)
  | _ => none
theorem cfg_X7_energy : CfgOK RX7 cX7_energy (C_X7_energy) 7 := ⟨tk_X7_energy, csF_nd, flk_X7, (List.forall_mem_cons.mpr ⟨Or.inr ⟨yX7_needSet, cX7_needSet, 2, none, none, 6, ok_X7_needSet, by decide, by decide, w_code_Sumsetry_needSet__I_V, w_initialized_Sumsetry, ⟨by decide, by decide⟩, Or.inr (Or.inr ⟨rfl, rfl, show (parseMethodDescriptor yX7_needSet.desc).map (fun d => d.parameters.length + 1) = some 2 from by decide +kernel, w_methodLink_Sumsetry_98, w_instanceMethod_Sumsetry_needSet__I_V, w_selects_Sumsetry_needSet__I_V, ⟨_, rfl, rfl⟩⟩)⟩,
    List.forall_mem_cons.mpr ⟨Or.inr ⟨yX7_bitsOf, cX7_bitsOf, 2, (some .long), none, 1, ok_X7_bitsOf, by decide, by decide, w_code_Sumsetry_bitsOf__I_J, w_initialized_Sumsetry, ⟨by decide, by decide⟩, Or.inr (Or.inr ⟨rfl, rfl, show (parseMethodDescriptor yX7_bitsOf.desc).map (fun d => d.parameters.length + 1) = some 2 from by decide +kernel, w_methodLink_Sumsetry_103, w_instanceMethod_Sumsetry_bitsOf__I_J, w_selects_Sumsetry_bitsOf__I_J, ⟨_, rfl, rfl⟩⟩)⟩,
    List.forall_mem_cons.mpr ⟨Or.inr ⟨yX1_waysTo, cX1_waysTo, 6, (some .int), none, 5, ok_X1_waysTo, by decide, by decide, w_code_Sumsetry_Group_waysTo__IJJ_I, w_initialized_Sumsetry_Group, ⟨by decide, by decide⟩, Or.inr (Or.inr ⟨rfl, rfl, show (parseMethodDescriptor yX1_waysTo.desc).map (fun d => d.parameters.length + 1) = some 4 from by decide +kernel, w_methodLink_Sumsetry_121, w_instanceMethod_Sumsetry_Group_waysTo__IJJ_I, w_selects_Sumsetry_Group_waysTo__IJJ_I, ⟨_, rfl, rfl⟩⟩)⟩, fun _ h => absurd h List.not_mem_nil⟩⟩⟩), ink_X7, lgk_X7, fun e h => absurd h List.not_mem_nil, (fun h hh => absurd hh List.not_mem_nil)⟩
theorem ok_X7_energy : OkM csF yX7_energy (Cond.code yX7_energy cX7_energy 6 (some .int)) 7 2 fn_X7_energy :=
  OkM_of (own := RX7) (C := C_X7_energy) (by decide +kernel) rfl (cfg_X7_energy) rfl rfl rfl rfl (by
    intro av M o M' h
    unfold fn_X7_energy at h
    split at h
    · rename_i r0 v1 v2
      rcases bif_cs h with ⟨hb, h⟩ | ⟨-, h⟩
      · skip
        have hr0 := hb
        obtain rfl := Nat.eq_of_beq_eq_true hr0
        exact ⟨rfl, Nat.le_of_ble_eq_true rfl, (r_X7_energy v1 v2 M) (o, M') h⟩
      · cases h
    · cases h)
def t_X7_energyAnew : List (Nat × Instr × Nat) := [(0, .aload_n 0, 1), (1, .iload_n 1, 1), (2, .invokevirtual 98, 3), (5, .aload_n 0, 1), (6, .iload_n 2, 1), (7, .invokevirtual 98, 3), (10, .iconst 0, 1), (11, .istore_n 3, 1), (12, .iconst 0, 1), (13, .istore 4, 2), (15, .iload 4, 2), (17, .aload_n 0, 1), (18, .getfield 10, 3), (21, .getfield 73, 3), (24, .if_icmp .ge 41, 3), (27, .iload_n 3, 1), (28, .aload_n 0, 1), (29, .getfield 10, 3), (32, .iload 4, 2), (34, .aload_n 0, 1), (35, .iload_n 1, 1), (36, .invokevirtual 103, 3), (39, .invokevirtual 130, 3), (42, .aload_n 0, 1), (43, .getfield 10, 3), (46, .iload 4, 2), (48, .aload_n 0, 1), (49, .iload_n 2, 1), (50, .invokevirtual 103, 3), (53, .invokevirtual 130, 3), (56, .imul, 1), (57, .iadd, 1), (58, .istore_n 3, 1), (59, .iinc 4 1, 3), (62, .goto (-47), 3), (65, .iload_n 3, 1), (66, .ireturn, 1)]
theorem tk_X7_energyAnew : ∀ x ∈ t_X7_energyAnew, decode cX7_energyAnew x.1 = .ok x.2 := by decide +kernel
def C_X7_energyAnew : Cfg := (t_X7_energyAnew, csF, fl_X7, [(98, 2, 5, 2, 1, fn_X7_needSet), (103, 2, 5, 2, 0, fn_X7_bitsOf), (130, 2, 1, 3, 0, fn_X1_waysAsDifference)], in_X7, lg_X7, [], [], none, (some .int), 2)
set_option maxRecDepth 100000 in
theorem b_X7_energyAnew_0 : (fun (v1 : Int32) (v2 : Int32) (M : Mem) => run C_X7_energyAnew 2 (0, [some (.ref 0), some (.int v1), some (.int v2), none, none], [], M, 0)) = (fun (v1 : Int32) (v2 : Int32) (M : Mem) => some (.inl (2, [some (.ref 0), some (.int v1), some (.int v2), none, none], [.int v1, .ref 0], M, 0))) := by rfl
set_option maxRecDepth 100000 in
theorem b_X7_energyAnew_1 : (fun (v1 : Int32) (v2 : Int32) (M1 : Mem) => run C_X7_energyAnew 2 (5, [some (.ref 0), some (.int v1), some (.int v2), none, none], [], M1, 1)) = (fun (v1 : Int32) (v2 : Int32) (M1 : Mem) => some (.inl (7, [some (.ref 0), some (.int v1), some (.int v2), none, none], [.int v2, .ref 0], M1, 1))) := by rfl
set_option maxRecDepth 100000 in
theorem b_X7_energyAnew_2 : (fun (v1 : Int32) (v2 : Int32) (M2 : Mem) => run C_X7_energyAnew 4 (10, [some (.ref 0), some (.int v1), some (.int v2), none, none], [], M2, 2)) = (fun (v1 : Int32) (v2 : Int32) (M2 : Mem) => some (.inl (15, [some (.ref 0), some (.int v1), some (.int v2), some (.int (0 : Int32)), some (.int (0 : Int32))], [], M2, 2))) := by rfl
set_option maxRecDepth 100000 in
theorem b_X7_energyAnew_3 : (fun (v1 : Int32) (v2 : Int32) (M2 : Mem) (a1 : (Int32 × Int32)) => run C_X7_energyAnew 5 (15, [some (.ref 0), some (.int v1), some (.int v2), some (.int a1.1), some (.int a1.2)], [], M2, 2)) = (fun (v1 : Int32) (v2 : Int32) (M2 : Mem) (a1 : (Int32 × Int32)) => some (.inl ((br (!decide (a1.2 < (M2.1 2 2))) 24 3 (41)), [some (.ref 0), some (.int v1), some (.int v2), some (.int a1.1), some (.int a1.2)], [], M2, 2))) := by rfl
set_option maxRecDepth 100000 in
theorem b_X7_energyAnew_4 : (fun (v1 : Int32) (v2 : Int32) (M2 : Mem) (a1 : (Int32 × Int32)) => run C_X7_energyAnew 20 (27, [some (.ref 0), some (.int v1), some (.int v2), some (.int a1.1), some (.int a1.2)], [], M2, 2)) = (fun (v1 : Int32) (v2 : Int32) (M2 : Mem) (a1 : (Int32 × Int32)) => some (.inl (15, [some (.ref 0), some (.int v1), some (.int v2), some (.int (a1.1 + ((d_X1_waysAsDifference a1.2 (d_X7_bitsOf v1 M2) M2) * (d_X1_waysAsDifference a1.2 (d_X7_bitsOf v2 M2) M2)))), some (.int (a1.2 + (1 : Int32)))], [], M2, 2))) := by rfl
def g_X7_energyAnew_1 (v1 : Int32) (v2 : Int32) (M2 : Mem) : Int32 × Int32 → Option ((Int32 × Int32) ⊕ ((Int32 × Int32) ⊕ (Res × Mem))) := fun (a1 : Int32 × Int32) => (if a1.2 < (M2.1 2 2) then some (.inl ((a1.1 + ((d_X1_waysAsDifference a1.2 (d_X7_bitsOf v1 M2) M2) * (d_X1_waysAsDifference a1.2 (d_X7_bitsOf v2 M2) M2))), (a1.2 + (1 : Int32)))) else some (.inr (.inl (a1.1, a1.2))))
set_option maxHeartbeats 2000000 in
theorem l_X7_energyAnew_1 (v1 : Int32) (v2 : Int32) (M : Mem) (M2 : Mem) : ∀ a1 : Int32 × Int32, RG C_X7_energyAnew ((fun (a1 : Int32 × Int32) => (15, [some (.ref 0), some (.int v1), some (.int v2), some (.int a1.1), some (.int a1.2)], [], M2, 2)) a1) (g_X7_energyAnew_1 v1 v2 M2 a1) (lpP (fun (a1 : Int32 × Int32) => (15, [some (.ref 0), some (.int v1), some (.int v2), some (.int a1.1), some (.int a1.2)], [], M2, 2)) (fun (a1 : Int32 × Int32) => (65, [some (.ref 0), some (.int v1), some (.int v2), some (.int a1.1), some (.int a1.2)], [], M2, 2)) id) := by
  intro a1
  unfold g_X7_energyAnew_1
  show RG C_X7_energyAnew (15, [some (.ref 0), some (.int v1), some (.int v2), some (.int a1.1), some (.int a1.2)], [], M2, 2) _ _
  refine RG.st 5 (congrFun (congrFun (congrFun (congrFun b_X7_energyAnew_3 v1) v2) M2) a1) ?_
  refine RG.ite (fun h3 => RG.brNF (q := 27) h3 rfl ?_) (fun h3 => RG.brNT (q := 65) h3 rfl ?_)
  · refine RG.st 20 (congrFun (congrFun (congrFun (congrFun b_X7_energyAnew_4 v1) v2) M2) a1) ?_
    exact RG.to rfl (Rto.refl _)
  · exact RG.to rfl (Rto.refl _)
set_option maxRecDepth 100000 in
theorem b_X7_energyAnew_5 : (fun (v1 : Int32) (v2 : Int32) (M2 : Mem) (a2 : (Int32 × Int32)) => run C_X7_energyAnew 2 (65, [some (.ref 0), some (.int v1), some (.int v2), some (.int a2.1), some (.int a2.2)], [], M2, 2)) = (fun (v1 : Int32) (v2 : Int32) (M2 : Mem) (a2 : (Int32 × Int32)) => some (.inr (.inl (some (.int a2.1)), M2, 2))) := by rfl
def d_X7_energyAnew (v1 : Int32) (v2 : Int32) (M : Mem) : Option (Res × Mem) := (onV (d_X7_needSet v1 M) (fun M1 => (onV (d_X7_needSet v2 M1) (fun M2 => (onIt (iter (g_X7_energyAnew_1 v1 v2 M2) 20000 ((0 : Int32), (0 : Int32))) (fun (a2 : Int32 × Int32) => some (.inl (some (.int a2.1)), M2)) (fun r => some r))) (fun r => some r))) (fun r => some r))
set_option maxHeartbeats 2000000 in
theorem r_X7_energyAnew (v1 : Int32) (v2 : Int32) (M : Mem) : RG C_X7_energyAnew (0, [some (.ref 0), some (.int v1), some (.int v2), none, none], [], M, 0) (d_X7_energyAnew v1 v2 M) (fun r => .inr r) := by
  unfold d_X7_energyAnew
  refine RG.st 2 (congrFun (congrFun (congrFun b_X7_energyAnew_0 v1) v2) M) ?_
  refine RG.callV (fun M1 h1 => RG.st 1 (run_callV (v := none) rfl rfl rfl rfl rfl h1) ?_) (fun E M1 h1 => RG.fin rfl (Rend.run 1 (run_callVx rfl rfl rfl rfl rfl h1 rfl)))
  show RG C_X7_energyAnew (5, [some (.ref 0), some (.int v1), some (.int v2), none, none], [], M1, 1) _ _
  refine RG.st 2 (congrFun (congrFun (congrFun b_X7_energyAnew_1 v1) v2) M1) ?_
  refine RG.callV (fun M2 h2 => RG.st 1 (run_callV (v := none) rfl rfl rfl rfl rfl h2) ?_) (fun E M2 h2 => RG.fin rfl (Rend.run 1 (run_callVx rfl rfl rfl rfl rfl h2 rfl)))
  show RG C_X7_energyAnew (10, [some (.ref 0), some (.int v1), some (.int v2), none, none], [], M2, 2) _ _
  refine RG.st 4 (congrFun (congrFun (congrFun b_X7_energyAnew_2 v1) v2) M2) ?_
  refine RG.loop (hd := (fun (a1 : Int32 × Int32) => (15, [some (.ref 0), some (.int v1), some (.int v2), some (.int a1.1), some (.int a1.2)], [], M2, 2))) (ex := (fun (a1 : Int32 × Int32) => (65, [some (.ref 0), some (.int v1), some (.int v2), some (.int a1.1), some (.int a1.2)], [], M2, 2))) (rt := id) (l_X7_energyAnew_1 v1 v2 M M2) (fun a2 => ?_) (fun r v h => by cases h; rfl)
  show RG C_X7_energyAnew (65, [some (.ref 0), some (.int v1), some (.int v2), some (.int a2.1), some (.int a2.2)], [], M2, 2) _ _
  exact RG.fin rfl (Rend.run 2 (congrFun (congrFun (congrFun (congrFun b_X7_energyAnew_5 v1) v2) M2) a2))
def fn_X7_energyAnew : Fn := fun av M => match av with
  | [.ref r0, .int v1, .int v2] => bif Nat.beq r0 0 then (d_X7_energyAnew v1 v2 M) else (none)
  | _ => none
theorem cfg_X7_energyAnew : CfgOK RX7 cX7_energyAnew (C_X7_energyAnew) 7 := ⟨tk_X7_energyAnew, csF_nd, flk_X7, (List.forall_mem_cons.mpr ⟨Or.inr ⟨yX7_needSet, cX7_needSet, 2, none, none, 6, ok_X7_needSet, by decide, by decide, w_code_Sumsetry_needSet__I_V, w_initialized_Sumsetry, ⟨by decide, by decide⟩, Or.inr (Or.inr ⟨rfl, rfl, show (parseMethodDescriptor yX7_needSet.desc).map (fun d => d.parameters.length + 1) = some 2 from by decide +kernel, w_methodLink_Sumsetry_98, w_instanceMethod_Sumsetry_needSet__I_V, w_selects_Sumsetry_needSet__I_V, ⟨_, rfl, rfl⟩⟩)⟩,
    List.forall_mem_cons.mpr ⟨Or.inr ⟨yX7_bitsOf, cX7_bitsOf, 2, (some .long), none, 1, ok_X7_bitsOf, by decide, by decide, w_code_Sumsetry_bitsOf__I_J, w_initialized_Sumsetry, ⟨by decide, by decide⟩, Or.inr (Or.inr ⟨rfl, rfl, show (parseMethodDescriptor yX7_bitsOf.desc).map (fun d => d.parameters.length + 1) = some 2 from by decide +kernel, w_methodLink_Sumsetry_103, w_instanceMethod_Sumsetry_bitsOf__I_J, w_selects_Sumsetry_bitsOf__I_J, ⟨_, rfl, rfl⟩⟩)⟩,
    List.forall_mem_cons.mpr ⟨Or.inr ⟨yX1_waysAsDifference, cX1_waysAsDifference, 4, (some .int), none, 3, ok_X1_waysAsDifference, by decide, by decide, w_code_Sumsetry_Group_waysAsDifference__IJ_I, w_initialized_Sumsetry_Group, ⟨by decide, by decide⟩, Or.inr (Or.inr ⟨rfl, rfl, show (parseMethodDescriptor yX1_waysAsDifference.desc).map (fun d => d.parameters.length + 1) = some 3 from by decide +kernel, w_methodLink_Sumsetry_130, w_instanceMethod_Sumsetry_Group_waysAsDifference__IJ_I, w_selects_Sumsetry_Group_waysAsDifference__IJ_I, ⟨_, rfl, rfl⟩⟩)⟩, fun _ h => absurd h List.not_mem_nil⟩⟩⟩), ink_X7, lgk_X7, fun e h => absurd h List.not_mem_nil, (fun h hh => absurd hh List.not_mem_nil)⟩
theorem ok_X7_energyAnew : OkM csF yX7_energyAnew (Cond.code yX7_energyAnew cX7_energyAnew 5 (some .int)) 7 2 fn_X7_energyAnew :=
  OkM_of (own := RX7) (C := C_X7_energyAnew) (by decide +kernel) rfl (cfg_X7_energyAnew) rfl rfl rfl rfl (by
    intro av M o M' h
    unfold fn_X7_energyAnew at h
    split at h
    · rename_i r0 v1 v2
      rcases bif_cs h with ⟨hb, h⟩ | ⟨-, h⟩
      · skip
        have hr0 := hb
        obtain rfl := Nat.eq_of_beq_eq_true hr0
        exact ⟨rfl, Nat.le_of_ble_eq_true rfl, (r_X7_energyAnew v1 v2 M) (o, M') h⟩
      · cases h
    · cases h)
def t_X7_stabilizer : List (Nat × Instr × Nat) := [(0, .aload_n 0, 1), (1, .iload_n 1, 1), (2, .invokevirtual 98, 3), (5, .aload_n 0, 1), (6, .getfield 10, 3), (9, .aload_n 0, 1), (10, .iload_n 1, 1), (11, .invokevirtual 103, 3), (14, .invokevirtual 134, 3), (17, .lreturn, 1)]
theorem tk_X7_stabilizer : ∀ x ∈ t_X7_stabilizer, decode cX7_stabilizer x.1 = .ok x.2 := by decide +kernel
def C_X7_stabilizer : Cfg := (t_X7_stabilizer, csF, fl_X7, [(98, 2, 5, 2, 1, fn_X7_needSet), (103, 2, 5, 2, 0, fn_X7_bitsOf), (134, 2, 1, 2, 0, fn_X1_unmoved)], in_X7, lg_X7, [], [], none, (some .long), 1)
set_option maxRecDepth 100000 in
theorem b_X7_stabilizer_0 : (fun (v1 : Int32) (M : Mem) => run C_X7_stabilizer 2 (0, [some (.ref 0), some (.int v1)], [], M, 0)) = (fun (v1 : Int32) (M : Mem) => some (.inl (2, [some (.ref 0), some (.int v1)], [.int v1, .ref 0], M, 0))) := by rfl
set_option maxRecDepth 100000 in
theorem b_X7_stabilizer_1 : (fun (v1 : Int32) (M1 : Mem) => run C_X7_stabilizer 5 (5, [some (.ref 0), some (.int v1)], [], M1, 1)) = (fun (v1 : Int32) (M1 : Mem) => some (.inl (14, [some (.ref 0), some (.int v1)], [.long (d_X7_bitsOf v1 M1), .ref 2], M1, 1))) := by rfl
set_option maxRecDepth 100000 in
theorem b_X7_stabilizer_2 : (fun (v1 : Int32) (M1 : Mem) (w2 : Int64) => run C_X7_stabilizer 1 (17, [some (.ref 0), some (.int v1)], [.long w2], M1, 1)) = (fun (v1 : Int32) (M1 : Mem) (w2 : Int64) => some (.inr (.inl (some (.long w2)), M1, 1))) := by rfl
def d_X7_stabilizer (v1 : Int32) (M : Mem) : Option (Res × Mem) := (onV (d_X7_needSet v1 M) (fun M1 => ((d_X1_unmoved (d_X7_bitsOf v1 M1) M1).bind fun w2 => some (.inl (some (.long w2)), M1))) (fun r => some r))
set_option maxHeartbeats 2000000 in
theorem r_X7_stabilizer (v1 : Int32) (M : Mem) : RG C_X7_stabilizer (0, [some (.ref 0), some (.int v1)], [], M, 0) (d_X7_stabilizer v1 M) (fun r => .inr r) := by
  unfold d_X7_stabilizer
  refine RG.st 2 (congrFun (congrFun b_X7_stabilizer_0 v1) M) ?_
  refine RG.callV (fun M1 h1 => RG.st 1 (run_callV (v := none) rfl rfl rfl rfl rfl h1) ?_) (fun E M1 h1 => RG.fin rfl (Rend.run 1 (run_callVx rfl rfl rfl rfl rfl h1 rfl)))
  show RG C_X7_stabilizer (5, [some (.ref 0), some (.int v1)], [], M1, 1) _ _
  refine RG.st 5 (congrFun (congrFun b_X7_stabilizer_1 v1) M1) ?_
  refine RG.bind (fun w2 h2 => RG.st 1 (run_callV (v := some (.long w2)) rfl rfl rfl rfl rfl (bindL h2)) ?_)
  show RG C_X7_stabilizer (17, [some (.ref 0), some (.int v1)], [.long w2], M1, 1) _ _
  exact RG.fin rfl (Rend.run 1 (congrFun (congrFun (congrFun b_X7_stabilizer_2 v1) M1) w2))
def fn_X7_stabilizer : Fn := fun av M => match av with
  | [.ref r0, .int v1] => bif Nat.beq r0 0 then (d_X7_stabilizer v1 M) else (none)
  | _ => none
theorem cfg_X7_stabilizer : CfgOK RX7 cX7_stabilizer (C_X7_stabilizer) 7 := ⟨tk_X7_stabilizer, csF_nd, flk_X7, (List.forall_mem_cons.mpr ⟨Or.inr ⟨yX7_needSet, cX7_needSet, 2, none, none, 6, ok_X7_needSet, by decide, by decide, w_code_Sumsetry_needSet__I_V, w_initialized_Sumsetry, ⟨by decide, by decide⟩, Or.inr (Or.inr ⟨rfl, rfl, show (parseMethodDescriptor yX7_needSet.desc).map (fun d => d.parameters.length + 1) = some 2 from by decide +kernel, w_methodLink_Sumsetry_98, w_instanceMethod_Sumsetry_needSet__I_V, w_selects_Sumsetry_needSet__I_V, ⟨_, rfl, rfl⟩⟩)⟩,
    List.forall_mem_cons.mpr ⟨Or.inr ⟨yX7_bitsOf, cX7_bitsOf, 2, (some .long), none, 1, ok_X7_bitsOf, by decide, by decide, w_code_Sumsetry_bitsOf__I_J, w_initialized_Sumsetry, ⟨by decide, by decide⟩, Or.inr (Or.inr ⟨rfl, rfl, show (parseMethodDescriptor yX7_bitsOf.desc).map (fun d => d.parameters.length + 1) = some 2 from by decide +kernel, w_methodLink_Sumsetry_103, w_instanceMethod_Sumsetry_bitsOf__I_J, w_selects_Sumsetry_bitsOf__I_J, ⟨_, rfl, rfl⟩⟩)⟩,
    List.forall_mem_cons.mpr ⟨Or.inr ⟨yX1_unmoved, cX1_unmoved, 6, (some .long), none, 3, ok_X1_unmoved, by decide, by decide, w_code_Sumsetry_Group_unmoved__J_J, w_initialized_Sumsetry_Group, ⟨by decide, by decide⟩, Or.inr (Or.inr ⟨rfl, rfl, show (parseMethodDescriptor yX1_unmoved.desc).map (fun d => d.parameters.length + 1) = some 2 from by decide +kernel, w_methodLink_Sumsetry_134, w_instanceMethod_Sumsetry_Group_unmoved__J_J, w_selects_Sumsetry_Group_unmoved__J_J, ⟨_, rfl, rfl⟩⟩)⟩, fun _ h => absurd h List.not_mem_nil⟩⟩⟩), ink_X7, lgk_X7, fun e h => absurd h List.not_mem_nil, (fun h hh => absurd hh List.not_mem_nil)⟩
theorem ok_X7_stabilizer : OkM csF yX7_stabilizer (Cond.code yX7_stabilizer cX7_stabilizer 2 (some .long)) 7 1 fn_X7_stabilizer :=
  OkM_of (own := RX7) (C := C_X7_stabilizer) (by decide +kernel) rfl (cfg_X7_stabilizer) rfl rfl rfl rfl (by
    intro av M o M' h
    unfold fn_X7_stabilizer at h
    split at h
    · rename_i r0 v1
      rcases bif_cs h with ⟨hb, h⟩ | ⟨-, h⟩
      · skip
        have hr0 := hb
        obtain rfl := Nat.eq_of_beq_eq_true hr0
        exact ⟨rfl, Nat.le_of_ble_eq_true rfl, (r_X7_stabilizer v1 M) (o, M') h⟩
      · cases h
    · cases h)
