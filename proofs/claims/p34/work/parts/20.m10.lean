/-! methods: X7_excess, X7_slack, X7_cover, X7_sums, X7_order, X7_essential -/
def t_X7_excess : List (Nat × Instr × Nat) := [(0, .aload_n 0, 1), (1, .iload_n 1, 1), (2, .invokevirtual 98, 3), (5, .aload_n 0, 1), (6, .iload_n 2, 1), (7, .invokevirtual 98, 3), (10, .aload_n 0, 1), (11, .getfield 10, 3), (14, .aload_n 0, 1), (15, .iload_n 1, 1), (16, .invokevirtual 103, 3), (19, .aload_n 0, 1), (20, .iload_n 2, 1), (21, .invokevirtual 103, 3), (24, .invokevirtual 138, 3), (27, .lstore_n 3, 1), (28, .aload_n 0, 1), (29, .getfield 10, 3), (32, .lload_n 3, 1), (33, .invokevirtual 134, 3), (36, .lstore 5, 2), (38, .lload_n 3, 1), (39, .invokestatic 142, 3), (42, .aload_n 0, 1), (43, .getfield 10, 3), (46, .aload_n 0, 1), (47, .iload_n 1, 1), (48, .invokevirtual 103, 3), (51, .lload 5, 2), (53, .invokevirtual 138, 3), (56, .invokestatic 142, 3), (59, .isub, 1), (60, .aload_n 0, 1), (61, .getfield 10, 3), (64, .aload_n 0, 1), (65, .iload_n 2, 1), (66, .invokevirtual 103, 3), (69, .lload 5, 2), (71, .invokevirtual 138, 3), (74, .invokestatic 142, 3), (77, .isub, 1), (78, .lload 5, 2), (80, .invokestatic 142, 3), (83, .iadd, 1), (84, .ireturn, 1)]
theorem tk_X7_excess : ∀ x ∈ t_X7_excess, decode cX7_excess x.1 = .ok x.2 := by decide +kernel
def C_X7_excess : Cfg := (t_X7_excess, csF, fl_X7, [(98, 2, 5, 2, 1, fn_X7_needSet), (103, 2, 5, 2, 0, fn_X7_bitsOf), (134, 2, 1, 2, 0, fn_X1_unmoved), (138, 2, 1, 3, 0, fn_X1_sumOf), (142, 0, 0, 1, 0, fn_J13_bitCount_95d88)], in_X7, lg_X7, [], [], none, (some .int), 2)
set_option maxRecDepth 100000 in
theorem b_X7_excess_0 : (fun (v1 : Int32) (v2 : Int32) (M : Mem) => run C_X7_excess 2 (0, [some (.ref 0), some (.int v1), some (.int v2), none, none, none, none], [], M, 0)) = (fun (v1 : Int32) (v2 : Int32) (M : Mem) => some (.inl (2, [some (.ref 0), some (.int v1), some (.int v2), none, none, none, none], [.int v1, .ref 0], M, 0))) := by rfl
set_option maxRecDepth 100000 in
theorem b_X7_excess_1 : (fun (v1 : Int32) (v2 : Int32) (M1 : Mem) => run C_X7_excess 2 (5, [some (.ref 0), some (.int v1), some (.int v2), none, none, none, none], [], M1, 1)) = (fun (v1 : Int32) (v2 : Int32) (M1 : Mem) => some (.inl (7, [some (.ref 0), some (.int v1), some (.int v2), none, none, none, none], [.int v2, .ref 0], M1, 1))) := by rfl
set_option maxRecDepth 100000 in
theorem b_X7_excess_2 : (fun (v1 : Int32) (v2 : Int32) (M2 : Mem) => run C_X7_excess 8 (10, [some (.ref 0), some (.int v1), some (.int v2), none, none, none, none], [], M2, 2)) = (fun (v1 : Int32) (v2 : Int32) (M2 : Mem) => some (.inl (24, [some (.ref 0), some (.int v1), some (.int v2), none, none, none, none], [.long (d_X7_bitsOf v2 M2), .long (d_X7_bitsOf v1 M2), .ref 2], M2, 2))) := by rfl
set_option maxRecDepth 100000 in
theorem b_X7_excess_3 : (fun (v1 : Int32) (v2 : Int32) (M2 : Mem) (w3 : Int64) => run C_X7_excess 4 (27, [some (.ref 0), some (.int v1), some (.int v2), none, none, none, none], [.long w3], M2, 2)) = (fun (v1 : Int32) (v2 : Int32) (M2 : Mem) (w3 : Int64) => some (.inl (33, [some (.ref 0), some (.int v1), some (.int v2), some (.long w3), none, none, none], [.long w3, .ref 2], M2, 2))) := by rfl
set_option maxRecDepth 100000 in
theorem b_X7_excess_4 : (fun (v1 : Int32) (v2 : Int32) (M2 : Mem) (w3 : Int64) (w4 : Int64) => run C_X7_excess 9 (36, [some (.ref 0), some (.int v1), some (.int v2), some (.long w3), none, none, none], [.long w4], M2, 2)) = (fun (v1 : Int32) (v2 : Int32) (M2 : Mem) (w3 : Int64) (w4 : Int64) => some (.inl (53, [some (.ref 0), some (.int v1), some (.int v2), some (.long w3), none, some (.long w4), none], [.long w4, .long (d_X7_bitsOf v1 M2), .ref 2, .int (d_J13_bitCount_95d88 w3)], M2, 2))) := by rfl
set_option maxRecDepth 100000 in
theorem b_X7_excess_5 : (fun (v1 : Int32) (v2 : Int32) (M2 : Mem) (w3 : Int64) (w4 : Int64) (w5 : Int64) => run C_X7_excess 8 (56, [some (.ref 0), some (.int v1), some (.int v2), some (.long w3), none, some (.long w4), none], [.long w5, .int (d_J13_bitCount_95d88 w3)], M2, 2)) = (fun (v1 : Int32) (v2 : Int32) (M2 : Mem) (w3 : Int64) (w4 : Int64) (w5 : Int64) => some (.inl (71, [some (.ref 0), some (.int v1), some (.int v2), some (.long w3), none, some (.long w4), none], [.long w4, .long (d_X7_bitsOf v2 M2), .ref 2, .int ((d_J13_bitCount_95d88 w3) - (d_J13_bitCount_95d88 w5))], M2, 2))) := by rfl
set_option maxRecDepth 100000 in
theorem b_X7_excess_6 : (fun (v1 : Int32) (v2 : Int32) (M2 : Mem) (w3 : Int64) (w4 : Int64) (w5 : Int64) (w6 : Int64) => run C_X7_excess 6 (74, [some (.ref 0), some (.int v1), some (.int v2), some (.long w3), none, some (.long w4), none], [.long w6, .int ((d_J13_bitCount_95d88 w3) - (d_J13_bitCount_95d88 w5))], M2, 2)) = (fun (v1 : Int32) (v2 : Int32) (M2 : Mem) (w3 : Int64) (w4 : Int64) (w5 : Int64) (w6 : Int64) => some (.inr (.inl (some (.int ((((d_J13_bitCount_95d88 w3) - (d_J13_bitCount_95d88 w5)) - (d_J13_bitCount_95d88 w6)) + (d_J13_bitCount_95d88 w4)))), M2, 2))) := by rfl
def d_X7_excess (v1 : Int32) (v2 : Int32) (M : Mem) : Option (Res × Mem) := (onV (d_X7_needSet v1 M) (fun M1 => (onV (d_X7_needSet v2 M1) (fun M2 => ((d_X1_sumOf (d_X7_bitsOf v1 M2) (d_X7_bitsOf v2 M2) M2).bind fun w3 => ((d_X1_unmoved w3 M2).bind fun w4 => ((d_X1_sumOf (d_X7_bitsOf v1 M2) w4 M2).bind fun w5 => ((d_X1_sumOf (d_X7_bitsOf v2 M2) w4 M2).bind fun w6 => some (.inl (some (.int ((((d_J13_bitCount_95d88 w3) - (d_J13_bitCount_95d88 w5)) - (d_J13_bitCount_95d88 w6)) + (d_J13_bitCount_95d88 w4)))), M2)))))) (fun r => some r))) (fun r => some r))
set_option maxHeartbeats 2000000 in
theorem r_X7_excess (v1 : Int32) (v2 : Int32) (M : Mem) : RG C_X7_excess (0, [some (.ref 0), some (.int v1), some (.int v2), none, none, none, none], [], M, 0) (d_X7_excess v1 v2 M) (fun r => .inr r) := by
  unfold d_X7_excess
  refine RG.st 2 (congrFun (congrFun (congrFun b_X7_excess_0 v1) v2) M) ?_
  refine RG.callV (fun M1 h1 => RG.st 1 (run_callV (v := none) rfl rfl rfl rfl rfl h1) ?_) (fun E M1 h1 => RG.fin rfl (Rend.run 1 (run_callVx rfl rfl rfl rfl rfl h1 rfl)))
  show RG C_X7_excess (5, [some (.ref 0), some (.int v1), some (.int v2), none, none, none, none], [], M1, 1) _ _
  refine RG.st 2 (congrFun (congrFun (congrFun b_X7_excess_1 v1) v2) M1) ?_
  refine RG.callV (fun M2 h2 => RG.st 1 (run_callV (v := none) rfl rfl rfl rfl rfl h2) ?_) (fun E M2 h2 => RG.fin rfl (Rend.run 1 (run_callVx rfl rfl rfl rfl rfl h2 rfl)))
  show RG C_X7_excess (10, [some (.ref 0), some (.int v1), some (.int v2), none, none, none, none], [], M2, 2) _ _
  refine RG.st 8 (congrFun (congrFun (congrFun b_X7_excess_2 v1) v2) M2) ?_
  refine RG.bind (fun w3 h3 => RG.st 1 (run_callV (v := some (.long w3)) rfl rfl rfl rfl rfl (bindL h3)) ?_)
  show RG C_X7_excess (27, [some (.ref 0), some (.int v1), some (.int v2), none, none, none, none], [.long w3], M2, 2) _ _
  refine RG.st 4 (congrFun (congrFun (congrFun (congrFun b_X7_excess_3 v1) v2) M2) w3) ?_
  refine RG.bind (fun w4 h4 => RG.st 1 (run_callV (v := some (.long w4)) rfl rfl rfl rfl rfl (bindL h4)) ?_)
  show RG C_X7_excess (36, [some (.ref 0), some (.int v1), some (.int v2), some (.long w3), none, none, none], [.long w4], M2, 2) _ _
  refine RG.st 9 (congrFun (congrFun (congrFun (congrFun (congrFun b_X7_excess_4 v1) v2) M2) w3) w4) ?_
  refine RG.bind (fun w5 h5 => RG.st 1 (run_callV (v := some (.long w5)) rfl rfl rfl rfl rfl (bindL h5)) ?_)
  show RG C_X7_excess (56, [some (.ref 0), some (.int v1), some (.int v2), some (.long w3), none, some (.long w4), none], [.long w5, .int (d_J13_bitCount_95d88 w3)], M2, 2) _ _
  refine RG.st 8 (congrFun (congrFun (congrFun (congrFun (congrFun (congrFun b_X7_excess_5 v1) v2) M2) w3) w4) w5) ?_
  refine RG.bind (fun w6 h6 => RG.st 1 (run_callV (v := some (.long w6)) rfl rfl rfl rfl rfl (bindL h6)) ?_)
  show RG C_X7_excess (74, [some (.ref 0), some (.int v1), some (.int v2), some (.long w3), none, some (.long w4), none], [.long w6, .int ((d_J13_bitCount_95d88 w3) - (d_J13_bitCount_95d88 w5))], M2, 2) _ _
  exact RG.fin rfl (Rend.run 6 (congrFun (congrFun (congrFun (congrFun (congrFun (congrFun (congrFun b_X7_excess_6 v1) v2) M2) w3) w4) w5) w6))
def fn_X7_excess : Fn := fun av M => match av with
  | [.ref r0, .int v1, .int v2] => bif Nat.beq r0 0 then (d_X7_excess v1 v2 M) else (none)
  | _ => none
theorem cfg_X7_excess : CfgOK RX7 cX7_excess (C_X7_excess) 7 := ⟨tk_X7_excess, csF_nd, flk_X7, (List.forall_mem_cons.mpr ⟨Or.inr ⟨yX7_needSet, cX7_needSet, 2, none, none, 6, ok_X7_needSet, by decide, by decide, w_code_Sumsetry_needSet__I_V, w_initialized_Sumsetry, ⟨by decide, by decide⟩, Or.inr (Or.inr ⟨rfl, rfl, show (parseMethodDescriptor yX7_needSet.desc).map (fun d => d.parameters.length + 1) = some 2 from by decide +kernel, w_methodLink_Sumsetry_98, w_instanceMethod_Sumsetry_needSet__I_V, w_selects_Sumsetry_needSet__I_V, ⟨_, rfl, rfl⟩⟩)⟩,
    List.forall_mem_cons.mpr ⟨Or.inr ⟨yX7_bitsOf, cX7_bitsOf, 2, (some .long), none, 1, ok_X7_bitsOf, by decide, by decide, w_code_Sumsetry_bitsOf__I_J, w_initialized_Sumsetry, ⟨by decide, by decide⟩, Or.inr (Or.inr ⟨rfl, rfl, show (parseMethodDescriptor yX7_bitsOf.desc).map (fun d => d.parameters.length + 1) = some 2 from by decide +kernel, w_methodLink_Sumsetry_103, w_instanceMethod_Sumsetry_bitsOf__I_J, w_selects_Sumsetry_bitsOf__I_J, ⟨_, rfl, rfl⟩⟩)⟩,
    List.forall_mem_cons.mpr ⟨Or.inr ⟨yX1_unmoved, cX1_unmoved, 6, (some .long), none, 3, ok_X1_unmoved, by decide, by decide, w_code_Sumsetry_Group_unmoved__J_J, w_initialized_Sumsetry_Group, ⟨by decide, by decide⟩, Or.inr (Or.inr ⟨rfl, rfl, show (parseMethodDescriptor yX1_unmoved.desc).map (fun d => d.parameters.length + 1) = some 2 from by decide +kernel, w_methodLink_Sumsetry_134, w_instanceMethod_Sumsetry_Group_unmoved__J_J, w_selects_Sumsetry_Group_unmoved__J_J, ⟨_, rfl, rfl⟩⟩)⟩,
    List.forall_mem_cons.mpr ⟨Or.inr ⟨yX1_sumOf, cX1_sumOf, 10, (some .long), none, 4, ok_X1_sumOf, by decide, by decide, w_code_Sumsetry_Group_sumOf__JJ_J, w_initialized_Sumsetry_Group, ⟨by decide, by decide⟩, Or.inr (Or.inr ⟨rfl, rfl, show (parseMethodDescriptor yX1_sumOf.desc).map (fun d => d.parameters.length + 1) = some 3 from by decide +kernel, w_methodLink_Sumsetry_138, w_instanceMethod_Sumsetry_Group_sumOf__JJ_J, w_selects_Sumsetry_Group_sumOf__JJ_J, ⟨_, rfl, rfl⟩⟩)⟩,
    List.forall_mem_cons.mpr ⟨Or.inr ⟨yJ13_bitCount_95d88, cJ13_bitCount_95d88, 2, (some .int), none, 1, ok_J13_bitCount_95d88, by decide, by decide, w_code_java_lang_Long_bitCount__J_I, w_initialized_java_lang_Long, ⟨by decide, by decide⟩, Or.inl ⟨rfl, show (parseMethodDescriptor yJ13_bitCount_95d88.desc).map (fun d => d.parameters.length) = some 1 from by decide +kernel, w_methodLink_Sumsetry_142, w_static_java_lang_Long_bitCount__J_I⟩⟩, fun _ h => absurd h List.not_mem_nil⟩⟩⟩⟩⟩), ink_X7, lgk_X7, fun e h => absurd h List.not_mem_nil, (fun h hh => absurd hh List.not_mem_nil)⟩
theorem ok_X7_excess : OkM csF yX7_excess (Cond.code yX7_excess cX7_excess 7 (some .int)) 7 2 fn_X7_excess :=
  OkM_of (own := RX7) (C := C_X7_excess) (by decide +kernel) rfl (cfg_X7_excess) rfl rfl rfl rfl (by
    intro av M o M' h
    unfold fn_X7_excess at h
    split at h
    · rename_i r0 v1 v2
      rcases bif_cs h with ⟨hb, h⟩ | ⟨-, h⟩
      · skip
        have hr0 := hb
        obtain rfl := Nat.eq_of_beq_eq_true hr0
        exact ⟨rfl, Nat.le_of_ble_eq_true rfl, (r_X7_excess v1 v2 M) (o, M') h⟩
      · cases h
    · cases h)
def t_X7_slack : List (Nat × Instr × Nat) := [(0, .aload_n 0, 1), (1, .iload_n 1, 1), (2, .invokevirtual 98, 3), (5, .aload_n 0, 1), (6, .iload_n 2, 1), (7, .invokevirtual 98, 3), (10, .aload_n 0, 1), (11, .iload_n 3, 1), (12, .invokevirtual 98, 3), (15, .aload_n 0, 1), (16, .iload_n 1, 1), (17, .invokevirtual 103, 3), (20, .lstore 4, 2), (22, .aload_n 0, 1), (23, .iload_n 2, 1), (24, .invokevirtual 103, 3), (27, .lstore 6, 2), (29, .aload_n 0, 1), (30, .iload_n 3, 1), (31, .invokevirtual 103, 3), (34, .lstore 8, 2), (36, .aload_n 0, 1), (37, .getfield 10, 3), (40, .lload 4, 2), (42, .lload 6, 2), (44, .invokevirtual 147, 3), (47, .invokestatic 142, 3), (50, .aload_n 0, 1), (51, .getfield 10, 3), (54, .lload 6, 2), (56, .lload 8, 2), (58, .invokevirtual 147, 3), (61, .invokestatic 142, 3), (64, .imul, 1), (65, .aload_n 0, 1), (66, .getfield 10, 3), (69, .lload 4, 2), (71, .lload 8, 2), (73, .invokevirtual 147, 3), (76, .invokestatic 142, 3), (79, .lload 6, 2), (81, .invokestatic 142, 3), (84, .imul, 1), (85, .isub, 1), (86, .ireturn, 1)]
theorem tk_X7_slack : ∀ x ∈ t_X7_slack, decode cX7_slack x.1 = .ok x.2 := by decide +kernel
def C_X7_slack : Cfg := (t_X7_slack, csF, fl_X7, [(98, 2, 5, 2, 1, fn_X7_needSet), (103, 2, 5, 2, 0, fn_X7_bitsOf), (142, 0, 0, 1, 0, fn_J13_bitCount_95d88), (147, 2, 1, 3, 0, fn_X1_differenceOf)], in_X7, lg_X7, [], [], none, (some .int), 3)
set_option maxRecDepth 100000 in
theorem b_X7_slack_0 : (fun (v1 : Int32) (v2 : Int32) (v3 : Int32) (M : Mem) => run C_X7_slack 2 (0, [some (.ref 0), some (.int v1), some (.int v2), some (.int v3), none, none, none, none, none, none], [], M, 0)) = (fun (v1 : Int32) (v2 : Int32) (v3 : Int32) (M : Mem) => some (.inl (2, [some (.ref 0), some (.int v1), some (.int v2), some (.int v3), none, none, none, none, none, none], [.int v1, .ref 0], M, 0))) := by rfl
set_option maxRecDepth 100000 in
theorem b_X7_slack_1 : (fun (v1 : Int32) (v2 : Int32) (v3 : Int32) (M1 : Mem) => run C_X7_slack 2 (5, [some (.ref 0), some (.int v1), some (.int v2), some (.int v3), none, none, none, none, none, none], [], M1, 1)) = (fun (v1 : Int32) (v2 : Int32) (v3 : Int32) (M1 : Mem) => some (.inl (7, [some (.ref 0), some (.int v1), some (.int v2), some (.int v3), none, none, none, none, none, none], [.int v2, .ref 0], M1, 1))) := by rfl
set_option maxRecDepth 100000 in
theorem b_X7_slack_2 : (fun (v1 : Int32) (v2 : Int32) (v3 : Int32) (M2 : Mem) => run C_X7_slack 2 (10, [some (.ref 0), some (.int v1), some (.int v2), some (.int v3), none, none, none, none, none, none], [], M2, 2)) = (fun (v1 : Int32) (v2 : Int32) (v3 : Int32) (M2 : Mem) => some (.inl (12, [some (.ref 0), some (.int v1), some (.int v2), some (.int v3), none, none, none, none, none, none], [.int v3, .ref 0], M2, 2))) := by rfl
set_option maxRecDepth 100000 in
theorem b_X7_slack_3 : (fun (v1 : Int32) (v2 : Int32) (v3 : Int32) (M3 : Mem) => run C_X7_slack 16 (15, [some (.ref 0), some (.int v1), some (.int v2), some (.int v3), none, none, none, none, none, none], [], M3, 3)) = (fun (v1 : Int32) (v2 : Int32) (v3 : Int32) (M3 : Mem) => some (.inl (44, [some (.ref 0), some (.int v1), some (.int v2), some (.int v3), some (.long (d_X7_bitsOf v1 M3)), none, some (.long (d_X7_bitsOf v2 M3)), none, some (.long (d_X7_bitsOf v3 M3)), none], [.long (d_X7_bitsOf v2 M3), .long (d_X7_bitsOf v1 M3), .ref 2], M3, 3))) := by rfl
set_option maxRecDepth 100000 in
theorem b_X7_slack_4 : (fun (v1 : Int32) (v2 : Int32) (v3 : Int32) (M3 : Mem) (w4 : Int64) => run C_X7_slack 5 (47, [some (.ref 0), some (.int v1), some (.int v2), some (.int v3), some (.long (d_X7_bitsOf v1 M3)), none, some (.long (d_X7_bitsOf v2 M3)), none, some (.long (d_X7_bitsOf v3 M3)), none], [.long w4], M3, 3)) = (fun (v1 : Int32) (v2 : Int32) (v3 : Int32) (M3 : Mem) (w4 : Int64) => some (.inl (58, [some (.ref 0), some (.int v1), some (.int v2), some (.int v3), some (.long (d_X7_bitsOf v1 M3)), none, some (.long (d_X7_bitsOf v2 M3)), none, some (.long (d_X7_bitsOf v3 M3)), none], [.long (d_X7_bitsOf v3 M3), .long (d_X7_bitsOf v2 M3), .ref 2, .int (d_J13_bitCount_95d88 w4)], M3, 3))) := by rfl
set_option maxRecDepth 100000 in
theorem b_X7_slack_5 : (fun (v1 : Int32) (v2 : Int32) (v3 : Int32) (M3 : Mem) (w4 : Int64) (w5 : Int64) => run C_X7_slack 6 (61, [some (.ref 0), some (.int v1), some (.int v2), some (.int v3), some (.long (d_X7_bitsOf v1 M3)), none, some (.long (d_X7_bitsOf v2 M3)), none, some (.long (d_X7_bitsOf v3 M3)), none], [.long w5, .int (d_J13_bitCount_95d88 w4)], M3, 3)) = (fun (v1 : Int32) (v2 : Int32) (v3 : Int32) (M3 : Mem) (w4 : Int64) (w5 : Int64) => some (.inl (73, [some (.ref 0), some (.int v1), some (.int v2), some (.int v3), some (.long (d_X7_bitsOf v1 M3)), none, some (.long (d_X7_bitsOf v2 M3)), none, some (.long (d_X7_bitsOf v3 M3)), none], [.long (d_X7_bitsOf v3 M3), .long (d_X7_bitsOf v1 M3), .ref 2, .int ((d_J13_bitCount_95d88 w4) * (d_J13_bitCount_95d88 w5))], M3, 3))) := by rfl
set_option maxRecDepth 100000 in
theorem b_X7_slack_6 : (fun (v1 : Int32) (v2 : Int32) (v3 : Int32) (M3 : Mem) (w4 : Int64) (w5 : Int64) (w6 : Int64) => run C_X7_slack 6 (76, [some (.ref 0), some (.int v1), some (.int v2), some (.int v3), some (.long (d_X7_bitsOf v1 M3)), none, some (.long (d_X7_bitsOf v2 M3)), none, some (.long (d_X7_bitsOf v3 M3)), none], [.long w6, .int ((d_J13_bitCount_95d88 w4) * (d_J13_bitCount_95d88 w5))], M3, 3)) = (fun (v1 : Int32) (v2 : Int32) (v3 : Int32) (M3 : Mem) (w4 : Int64) (w5 : Int64) (w6 : Int64) => some (.inr (.inl (some (.int (((d_J13_bitCount_95d88 w4) * (d_J13_bitCount_95d88 w5)) - ((d_J13_bitCount_95d88 w6) * (d_J13_bitCount_95d88 (d_X7_bitsOf v2 M3)))))), M3, 3))) := by rfl
def d_X7_slack (v1 : Int32) (v2 : Int32) (v3 : Int32) (M : Mem) : Option (Res × Mem) := (onV (d_X7_needSet v1 M) (fun M1 => (onV (d_X7_needSet v2 M1) (fun M2 => (onV (d_X7_needSet v3 M2) (fun M3 => ((d_X1_differenceOf (d_X7_bitsOf v1 M3) (d_X7_bitsOf v2 M3) M3).bind fun w4 => ((d_X1_differenceOf (d_X7_bitsOf v2 M3) (d_X7_bitsOf v3 M3) M3).bind fun w5 => ((d_X1_differenceOf (d_X7_bitsOf v1 M3) (d_X7_bitsOf v3 M3) M3).bind fun w6 => some (.inl (some (.int (((d_J13_bitCount_95d88 w4) * (d_J13_bitCount_95d88 w5)) - ((d_J13_bitCount_95d88 w6) * (d_J13_bitCount_95d88 (d_X7_bitsOf v2 M3)))))), M3))))) (fun r => some r))) (fun r => some r))) (fun r => some r))
set_option maxHeartbeats 2000000 in
theorem r_X7_slack (v1 : Int32) (v2 : Int32) (v3 : Int32) (M : Mem) : RG C_X7_slack (0, [some (.ref 0), some (.int v1), some (.int v2), some (.int v3), none, none, none, none, none, none], [], M, 0) (d_X7_slack v1 v2 v3 M) (fun r => .inr r) := by
  unfold d_X7_slack
  refine RG.st 2 (congrFun (congrFun (congrFun (congrFun b_X7_slack_0 v1) v2) v3) M) ?_
  refine RG.callV (fun M1 h1 => RG.st 1 (run_callV (v := none) rfl rfl rfl rfl rfl h1) ?_) (fun E M1 h1 => RG.fin rfl (Rend.run 1 (run_callVx rfl rfl rfl rfl rfl h1 rfl)))
  show RG C_X7_slack (5, [some (.ref 0), some (.int v1), some (.int v2), some (.int v3), none, none, none, none, none, none], [], M1, 1) _ _
  refine RG.st 2 (congrFun (congrFun (congrFun (congrFun b_X7_slack_1 v1) v2) v3) M1) ?_
  refine RG.callV (fun M2 h2 => RG.st 1 (run_callV (v := none) rfl rfl rfl rfl rfl h2) ?_) (fun E M2 h2 => RG.fin rfl (Rend.run 1 (run_callVx rfl rfl rfl rfl rfl h2 rfl)))
  show RG C_X7_slack (10, [some (.ref 0), some (.int v1), some (.int v2), some (.int v3), none, none, none, none, none, none], [], M2, 2) _ _
  refine RG.st 2 (congrFun (congrFun (congrFun (congrFun b_X7_slack_2 v1) v2) v3) M2) ?_
  refine RG.callV (fun M3 h3 => RG.st 1 (run_callV (v := none) rfl rfl rfl rfl rfl h3) ?_) (fun E M3 h3 => RG.fin rfl (Rend.run 1 (run_callVx rfl rfl rfl rfl rfl h3 rfl)))
  show RG C_X7_slack (15, [some (.ref 0), some (.int v1), some (.int v2), some (.int v3), none, none, none, none, none, none], [], M3, 3) _ _
  refine RG.st 16 (congrFun (congrFun (congrFun (congrFun b_X7_slack_3 v1) v2) v3) M3) ?_
  refine RG.bind (fun w4 h4 => RG.st 1 (run_callV (v := some (.long w4)) rfl rfl rfl rfl rfl (bindL h4)) ?_)
  show RG C_X7_slack (47, [some (.ref 0), some (.int v1), some (.int v2), some (.int v3), some (.long (d_X7_bitsOf v1 M3)), none, some (.long (d_X7_bitsOf v2 M3)), none, some (.long (d_X7_bitsOf v3 M3)), none], [.long w4], M3, 3) _ _
  refine RG.st 5 (congrFun (congrFun (congrFun (congrFun (congrFun b_X7_slack_4 v1) v2) v3) M3) w4) ?_
  refine RG.bind (fun w5 h5 => RG.st 1 (run_callV (v := some (.long w5)) rfl rfl rfl rfl rfl (bindL h5)) ?_)
  show RG C_X7_slack (61, [some (.ref 0), some (.int v1), some (.int v2), some (.int v3), some (.long (d_X7_bitsOf v1 M3)), none, some (.long (d_X7_bitsOf v2 M3)), none, some (.long (d_X7_bitsOf v3 M3)), none], [.long w5, .int (d_J13_bitCount_95d88 w4)], M3, 3) _ _
  refine RG.st 6 (congrFun (congrFun (congrFun (congrFun (congrFun (congrFun b_X7_slack_5 v1) v2) v3) M3) w4) w5) ?_
  refine RG.bind (fun w6 h6 => RG.st 1 (run_callV (v := some (.long w6)) rfl rfl rfl rfl rfl (bindL h6)) ?_)
  show RG C_X7_slack (76, [some (.ref 0), some (.int v1), some (.int v2), some (.int v3), some (.long (d_X7_bitsOf v1 M3)), none, some (.long (d_X7_bitsOf v2 M3)), none, some (.long (d_X7_bitsOf v3 M3)), none], [.long w6, .int ((d_J13_bitCount_95d88 w4) * (d_J13_bitCount_95d88 w5))], M3, 3) _ _
  exact RG.fin rfl (Rend.run 6 (congrFun (congrFun (congrFun (congrFun (congrFun (congrFun (congrFun b_X7_slack_6 v1) v2) v3) M3) w4) w5) w6))
def fn_X7_slack : Fn := fun av M => match av with
  | [.ref r0, .int v1, .int v2, .int v3] => bif Nat.beq r0 0 then (d_X7_slack v1 v2 v3 M) else (none)
  | _ => none
theorem cfg_X7_slack : CfgOK RX7 cX7_slack (C_X7_slack) 7 := ⟨tk_X7_slack, csF_nd, flk_X7, (List.forall_mem_cons.mpr ⟨Or.inr ⟨yX7_needSet, cX7_needSet, 2, none, none, 6, ok_X7_needSet, by decide, by decide, w_code_Sumsetry_needSet__I_V, w_initialized_Sumsetry, ⟨by decide, by decide⟩, Or.inr (Or.inr ⟨rfl, rfl, show (parseMethodDescriptor yX7_needSet.desc).map (fun d => d.parameters.length + 1) = some 2 from by decide +kernel, w_methodLink_Sumsetry_98, w_instanceMethod_Sumsetry_needSet__I_V, w_selects_Sumsetry_needSet__I_V, ⟨_, rfl, rfl⟩⟩)⟩,
    List.forall_mem_cons.mpr ⟨Or.inr ⟨yX7_bitsOf, cX7_bitsOf, 2, (some .long), none, 1, ok_X7_bitsOf, by decide, by decide, w_code_Sumsetry_bitsOf__I_J, w_initialized_Sumsetry, ⟨by decide, by decide⟩, Or.inr (Or.inr ⟨rfl, rfl, show (parseMethodDescriptor yX7_bitsOf.desc).map (fun d => d.parameters.length + 1) = some 2 from by decide +kernel, w_methodLink_Sumsetry_103, w_instanceMethod_Sumsetry_bitsOf__I_J, w_selects_Sumsetry_bitsOf__I_J, ⟨_, rfl, rfl⟩⟩)⟩,
    List.forall_mem_cons.mpr ⟨Or.inr ⟨yJ13_bitCount_95d88, cJ13_bitCount_95d88, 2, (some .int), none, 1, ok_J13_bitCount_95d88, by decide, by decide, w_code_java_lang_Long_bitCount__J_I, w_initialized_java_lang_Long, ⟨by decide, by decide⟩, Or.inl ⟨rfl, show (parseMethodDescriptor yJ13_bitCount_95d88.desc).map (fun d => d.parameters.length) = some 1 from by decide +kernel, w_methodLink_Sumsetry_142, w_static_java_lang_Long_bitCount__J_I⟩⟩,
    List.forall_mem_cons.mpr ⟨Or.inr ⟨yX1_differenceOf, cX1_differenceOf, 5, (some .long), none, 5, ok_X1_differenceOf, by decide, by decide, w_code_Sumsetry_Group_differenceOf__JJ_J, w_initialized_Sumsetry_Group, ⟨by decide, by decide⟩, Or.inr (Or.inr ⟨rfl, rfl, show (parseMethodDescriptor yX1_differenceOf.desc).map (fun d => d.parameters.length + 1) = some 3 from by decide +kernel, w_methodLink_Sumsetry_147, w_instanceMethod_Sumsetry_Group_differenceOf__JJ_J, w_selects_Sumsetry_Group_differenceOf__JJ_J, ⟨_, rfl, rfl⟩⟩)⟩, fun _ h => absurd h List.not_mem_nil⟩⟩⟩⟩), ink_X7, lgk_X7, fun e h => absurd h List.not_mem_nil, (fun h hh => absurd hh List.not_mem_nil)⟩
theorem ok_X7_slack : OkM csF yX7_slack (Cond.code yX7_slack cX7_slack 10 (some .int)) 7 3 fn_X7_slack :=
  OkM_of (own := RX7) (C := C_X7_slack) (by decide +kernel) rfl (cfg_X7_slack) rfl rfl rfl rfl (by
    intro av M o M' h
    unfold fn_X7_slack at h
    split at h
    · rename_i r0 v1 v2 v3
      rcases bif_cs h with ⟨hb, h⟩ | ⟨-, h⟩
      · skip
        have hr0 := hb
        obtain rfl := Nat.eq_of_beq_eq_true hr0
        exact ⟨rfl, Nat.le_of_ble_eq_true rfl, (r_X7_slack v1 v2 v3 M) (o, M') h⟩
      · cases h
    · cases h)
def t_X7_cover : List (Nat × Instr × Nat) := [(0, .aload_n 0, 1), (1, .iload_n 1, 1), (2, .invokevirtual 98, 3), (5, .aload_n 0, 1), (6, .iload_n 2, 1), (7, .invokevirtual 98, 3), (10, .lconst 0, 1), (11, .lstore_n 3, 1), (12, .lconst 0, 1), (13, .lstore 5, 2), (15, .iconst 0, 1), (16, .istore 7, 2), (18, .iload 7, 2), (20, .aload_n 0, 1), (21, .getfield 10, 3), (24, .getfield 73, 3), (27, .if_icmp .ge 63, 3), (30, .aload_n 0, 1), (31, .getfield 10, 3), (34, .aload_n 0, 1), (35, .iload_n 2, 1), (36, .invokevirtual 103, 3), (39, .iload 7, 2), (41, .invokevirtual 117, 3), (44, .lstore 8, 2), (46, .aload_n 0, 1), (47, .iload_n 1, 1), (48, .invokevirtual 103, 3), (51, .iload 7, 2), (53, .invokestatic 150, 3), (56, .ifCond .eq 28, 3), (59, .lload 8, 2), (61, .lload 5, 2), (63, .land, 1), (64, .lconst 0, 1), (65, .lcmp, 1), (66, .ifCond .ne 18, 3), (69, .lload_n 3, 1), (70, .iload 7, 2), (72, .invokestatic 127, 3), (75, .lor, 1), (76, .lstore_n 3, 1), (77, .lload 5, 2), (79, .lload 8, 2), (81, .lor, 1), (82, .lstore 5, 2), (84, .iinc 7 1, 3), (87, .goto (-69), 3), (90, .lload_n 3, 1), (91, .lreturn, 1)]
theorem tk_X7_cover : ∀ x ∈ t_X7_cover, decode cX7_cover x.1 = .ok x.2 := by decide +kernel
def C_X7_cover : Cfg := (t_X7_cover, csF, fl_X7, [(98, 2, 5, 2, 1, fn_X7_needSet), (103, 2, 5, 2, 0, fn_X7_bitsOf), (117, 2, 1, 3, 0, fn_X1_shifted), (127, 0, 5, 1, 0, fn_X7_bit), (150, 0, 5, 2, 0, fn_X7_has)], in_X7, lg_X7, [], [], none, (some .long), 2)
set_option maxRecDepth 100000 in
theorem b_X7_cover_0 : (fun (v1 : Int32) (v2 : Int32) (M : Mem) => run C_X7_cover 2 (0, [some (.ref 0), some (.int v1), some (.int v2), none, none, none, none, none, none, none], [], M, 0)) = (fun (v1 : Int32) (v2 : Int32) (M : Mem) => some (.inl (2, [some (.ref 0), some (.int v1), some (.int v2), none, none, none, none, none, none, none], [.int v1, .ref 0], M, 0))) := by rfl
set_option maxRecDepth 100000 in
theorem b_X7_cover_1 : (fun (v1 : Int32) (v2 : Int32) (M1 : Mem) => run C_X7_cover 2 (5, [some (.ref 0), some (.int v1), some (.int v2), none, none, none, none, none, none, none], [], M1, 1)) = (fun (v1 : Int32) (v2 : Int32) (M1 : Mem) => some (.inl (7, [some (.ref 0), some (.int v1), some (.int v2), none, none, none, none, none, none, none], [.int v2, .ref 0], M1, 1))) := by rfl
set_option maxRecDepth 100000 in
theorem b_X7_cover_2 : (fun (v1 : Int32) (v2 : Int32) (M2 : Mem) => run C_X7_cover 6 (10, [some (.ref 0), some (.int v1), some (.int v2), none, none, none, none, none, none, none], [], M2, 2)) = (fun (v1 : Int32) (v2 : Int32) (M2 : Mem) => some (.inl (18, [some (.ref 0), some (.int v1), some (.int v2), some (.long (0 : Int64)), none, some (.long (0 : Int64)), none, some (.int (0 : Int32)), none, none], [], M2, 2))) := by rfl
set_option maxRecDepth 100000 in
theorem b_X7_cover_3 : (fun (v1 : Int32) (v2 : Int32) (M2 : Mem) (a1 : (Int64 × Int64 × Int32)) => run C_X7_cover 5 (18, [some (.ref 0), some (.int v1), some (.int v2), some (.long a1.1), none, some (.long a1.2.1), none, some (.int a1.2.2), none, none], [], M2, 2)) = (fun (v1 : Int32) (v2 : Int32) (M2 : Mem) (a1 : (Int64 × Int64 × Int32)) => some (.inl ((br (!decide (a1.2.2 < (M2.1 2 2))) 27 3 (63)), [some (.ref 0), some (.int v1), some (.int v2), some (.long a1.1), none, some (.long a1.2.1), none, some (.int a1.2.2), none, none], [], M2, 2))) := by rfl
set_option maxRecDepth 100000 in
theorem b_X7_cover_4 : (fun (v1 : Int32) (v2 : Int32) (M2 : Mem) (a1 : (Int64 × Int64 × Int32)) => run C_X7_cover 14 (30, [some (.ref 0), some (.int v1), some (.int v2), some (.long a1.1), none, some (.long a1.2.1), none, some (.int a1.2.2), none, none], [], M2, 2)) = (fun (v1 : Int32) (v2 : Int32) (M2 : Mem) (a1 : (Int64 × Int64 × Int32)) => some (.inl ((br (decide ((d_X7_has (d_X7_bitsOf v1 M2) a1.2.2) = 0)) 56 3 (28)), [some (.ref 0), some (.int v1), some (.int v2), some (.long a1.1), none, some (.long a1.2.1), none, some (.int a1.2.2), some (.long (d_X1_shifted (d_X7_bitsOf v2 M2) a1.2.2 M2)), none], [], M2, 2))) := by rfl
set_option maxRecDepth 100000 in
theorem b_X7_cover_5 : (fun (v1 : Int32) (v2 : Int32) (M2 : Mem) (a1 : (Int64 × Int64 × Int32)) => run C_X7_cover 6 (59, [some (.ref 0), some (.int v1), some (.int v2), some (.long a1.1), none, some (.long a1.2.1), none, some (.int a1.2.2), some (.long (d_X1_shifted (d_X7_bitsOf v2 M2) a1.2.2 M2)), none], [], M2, 2)) = (fun (v1 : Int32) (v2 : Int32) (M2 : Mem) (a1 : (Int64 × Int64 × Int32)) => some (.inl ((br (!decide ((lg_cmp ((d_X1_shifted (d_X7_bitsOf v2 M2) a1.2.2 M2) &&& a1.2.1) (0 : Int64)) = 0)) 66 3 (18)), [some (.ref 0), some (.int v1), some (.int v2), some (.long a1.1), none, some (.long a1.2.1), none, some (.int a1.2.2), some (.long (d_X1_shifted (d_X7_bitsOf v2 M2) a1.2.2 M2)), none], [], M2, 2))) := by rfl
set_option maxRecDepth 100000 in
theorem b_X7_cover_6 : (fun (v1 : Int32) (v2 : Int32) (M2 : Mem) (a1 : (Int64 × Int64 × Int32)) => run C_X7_cover 9 (69, [some (.ref 0), some (.int v1), some (.int v2), some (.long a1.1), none, some (.long a1.2.1), none, some (.int a1.2.2), some (.long (d_X1_shifted (d_X7_bitsOf v2 M2) a1.2.2 M2)), none], [], M2, 2)) = (fun (v1 : Int32) (v2 : Int32) (M2 : Mem) (a1 : (Int64 × Int64 × Int32)) => some (.inl (84, [some (.ref 0), some (.int v1), some (.int v2), some (.long (a1.1 ||| (d_X7_bit a1.2.2))), none, some (.long (a1.2.1 ||| (d_X1_shifted (d_X7_bitsOf v2 M2) a1.2.2 M2))), none, some (.int a1.2.2), some (.long (d_X1_shifted (d_X7_bitsOf v2 M2) a1.2.2 M2)), none], [], M2, 2))) := by rfl
theorem m_X7_cover_0 (v1 : Int32) (v2 : Int32) (M2 : Mem) (a1 : (Int64 × Int64 × Int32)) : Rto C_X7_cover (59, [some (.ref 0), some (.int v1), some (.int v2), some (.long a1.1), none, some (.long a1.2.1), none, some (.int a1.2.2), some (.long (d_X1_shifted (d_X7_bitsOf v2 M2) a1.2.2 M2)), none], [], M2, 2) (84, [some (.ref 0), some (.int v1), some (.int v2), some (.long (if (lg_cmp ((d_X1_shifted (d_X7_bitsOf v2 M2) a1.2.2 M2) &&& a1.2.1) (0 : Int64)) = 0 then (a1.1 ||| (d_X7_bit a1.2.2)) else a1.1)), none, some (.long (if (lg_cmp ((d_X1_shifted (d_X7_bitsOf v2 M2) a1.2.2 M2) &&& a1.2.1) (0 : Int64)) = 0 then (a1.2.1 ||| (d_X1_shifted (d_X7_bitsOf v2 M2) a1.2.2 M2)) else a1.2.1)), none, some (.int a1.2.2), some (.long (d_X1_shifted (d_X7_bitsOf v2 M2) a1.2.2 M2)), none], [], M2, 2) := by
  refine Rto.trans (Rto.run 6 (congrFun (congrFun (congrFun (congrFun b_X7_cover_5 v1) v2) M2) a1)) ?_
  by_cases h : (lg_cmp ((d_X1_shifted (d_X7_bitsOf v2 M2) a1.2.2 M2) &&& a1.2.1) (0 : Int64)) = 0
  · refine Rto.trans (Rto.brNF (q := 69) h rfl) ?_
    refine Rto.trans (Rto.run 9 (congrFun (congrFun (congrFun (congrFun b_X7_cover_6 v1) v2) M2) a1)) ?_
    exact Rto.eq (by first | (simp only [if_pos h]; done) | rfl | exact absurd rfl h | (simp; done))
  · refine Rto.trans (Rto.brNT (q := 84) h rfl) ?_
    exact Rto.eq (by first | (simp only [if_neg h]; done) | rfl | exact absurd rfl h | (simp; done))
theorem m_X7_cover_1 (v1 : Int32) (v2 : Int32) (M2 : Mem) (a1 : (Int64 × Int64 × Int32)) : Rto C_X7_cover (30, [some (.ref 0), some (.int v1), some (.int v2), some (.long a1.1), none, some (.long a1.2.1), none, some (.int a1.2.2), none, none], [], M2, 2) (84, [some (.ref 0), some (.int v1), some (.int v2), some (.long (if (d_X7_has (d_X7_bitsOf v1 M2) a1.2.2) = 0 then a1.1 else (if (lg_cmp ((d_X1_shifted (d_X7_bitsOf v2 M2) a1.2.2 M2) &&& a1.2.1) (0 : Int64)) = 0 then (a1.1 ||| (d_X7_bit a1.2.2)) else a1.1))), none, some (.long (if (d_X7_has (d_X7_bitsOf v1 M2) a1.2.2) = 0 then a1.2.1 else (if (lg_cmp ((d_X1_shifted (d_X7_bitsOf v2 M2) a1.2.2 M2) &&& a1.2.1) (0 : Int64)) = 0 then (a1.2.1 ||| (d_X1_shifted (d_X7_bitsOf v2 M2) a1.2.2 M2)) else a1.2.1))), none, some (.int a1.2.2), some (.long (d_X1_shifted (d_X7_bitsOf v2 M2) a1.2.2 M2)), none], [], M2, 2) := by
  refine Rto.trans (Rto.run 14 (congrFun (congrFun (congrFun (congrFun b_X7_cover_4 v1) v2) M2) a1)) ?_
  by_cases h : (d_X7_has (d_X7_bitsOf v1 M2) a1.2.2) = 0
  · refine Rto.trans (Rto.brT (q := 84) h rfl) ?_
    exact Rto.eq (by first | (simp only [if_pos h]; done) | rfl | exact absurd rfl h | (simp; done))
  · refine Rto.trans (Rto.brF (q := 59) h rfl) ?_
    refine Rto.trans (m_X7_cover_0 v1 v2 M2 a1) ?_
    exact Rto.eq (by first | (simp only [if_neg h]; done) | rfl | exact absurd rfl h | (simp; done))
set_option maxRecDepth 100000 in
theorem b_X7_cover_7 : (fun (v1 : Int32) (v2 : Int32) (M2 : Mem) (a1 : (Int64 × Int64 × Int32)) => run C_X7_cover 2 (84, [some (.ref 0), some (.int v1), some (.int v2), some (.long (if (d_X7_has (d_X7_bitsOf v1 M2) a1.2.2) = 0 then a1.1 else (if (lg_cmp ((d_X1_shifted (d_X7_bitsOf v2 M2) a1.2.2 M2) &&& a1.2.1) (0 : Int64)) = 0 then (a1.1 ||| (d_X7_bit a1.2.2)) else a1.1))), none, some (.long (if (d_X7_has (d_X7_bitsOf v1 M2) a1.2.2) = 0 then a1.2.1 else (if (lg_cmp ((d_X1_shifted (d_X7_bitsOf v2 M2) a1.2.2 M2) &&& a1.2.1) (0 : Int64)) = 0 then (a1.2.1 ||| (d_X1_shifted (d_X7_bitsOf v2 M2) a1.2.2 M2)) else a1.2.1))), none, some (.int a1.2.2), some (.long (d_X1_shifted (d_X7_bitsOf v2 M2) a1.2.2 M2)), none], [], M2, 2)) = (fun (v1 : Int32) (v2 : Int32) (M2 : Mem) (a1 : (Int64 × Int64 × Int32)) => some (.inl (18, [some (.ref 0), some (.int v1), some (.int v2), some (.long (if (d_X7_has (d_X7_bitsOf v1 M2) a1.2.2) = 0 then a1.1 else (if (lg_cmp ((d_X1_shifted (d_X7_bitsOf v2 M2) a1.2.2 M2) &&& a1.2.1) (0 : Int64)) = 0 then (a1.1 ||| (d_X7_bit a1.2.2)) else a1.1))), none, some (.long (if (d_X7_has (d_X7_bitsOf v1 M2) a1.2.2) = 0 then a1.2.1 else (if (lg_cmp ((d_X1_shifted (d_X7_bitsOf v2 M2) a1.2.2 M2) &&& a1.2.1) (0 : Int64)) = 0 then (a1.2.1 ||| (d_X1_shifted (d_X7_bitsOf v2 M2) a1.2.2 M2)) else a1.2.1))), none, some (.int (a1.2.2 + (1 : Int32))), some (.long (d_X1_shifted (d_X7_bitsOf v2 M2) a1.2.2 M2)), none], [], M2, 2))) := by rfl
def g_X7_cover_1 (v1 : Int32) (v2 : Int32) (M2 : Mem) : Int64 × Int64 × Int32 → Option ((Int64 × Int64 × Int32) ⊕ ((Int64 × Int64 × Int32) ⊕ (Res × Mem))) := fun (a1 : Int64 × Int64 × Int32) => (if a1.2.2 < (M2.1 2 2) then some (.inl ((if (d_X7_has (d_X7_bitsOf v1 M2) a1.2.2) = 0 then a1.1 else (if (lg_cmp ((d_X1_shifted (d_X7_bitsOf v2 M2) a1.2.2 M2) &&& a1.2.1) (0 : Int64)) = 0 then (a1.1 ||| (d_X7_bit a1.2.2)) else a1.1)), (if (d_X7_has (d_X7_bitsOf v1 M2) a1.2.2) = 0 then a1.2.1 else (if (lg_cmp ((d_X1_shifted (d_X7_bitsOf v2 M2) a1.2.2 M2) &&& a1.2.1) (0 : Int64)) = 0 then (a1.2.1 ||| (d_X1_shifted (d_X7_bitsOf v2 M2) a1.2.2 M2)) else a1.2.1)), (a1.2.2 + (1 : Int32)))) else some (.inr (.inl (a1.1, a1.2.1, a1.2.2))))
set_option maxHeartbeats 2000000 in
theorem l_X7_cover_1 (v1 : Int32) (v2 : Int32) (M : Mem) (M2 : Mem) : ∀ a1 : Int64 × Int64 × Int32, RG C_X7_cover ((fun (a1 : Int64 × Int64 × Int32) => (18, [some (.ref 0), some (.int v1), some (.int v2), some (.long a1.1), none, some (.long a1.2.1), none, some (.int a1.2.2), none, none], [], M2, 2)) a1) (g_X7_cover_1 v1 v2 M2 a1) (lpP (fun (a1 : Int64 × Int64 × Int32) => (18, [some (.ref 0), some (.int v1), some (.int v2), some (.long a1.1), none, some (.long a1.2.1), none, some (.int a1.2.2), none, none], [], M2, 2)) (fun (a1 : Int64 × Int64 × Int32) => (90, [some (.ref 0), some (.int v1), some (.int v2), some (.long a1.1), none, some (.long a1.2.1), none, some (.int a1.2.2), none, none], [], M2, 2)) id) := by
  intro a1
  unfold g_X7_cover_1
  show RG C_X7_cover (18, [some (.ref 0), some (.int v1), some (.int v2), some (.long a1.1), none, some (.long a1.2.1), none, some (.int a1.2.2), none, none], [], M2, 2) _ _
  refine RG.st 5 (congrFun (congrFun (congrFun (congrFun b_X7_cover_3 v1) v2) M2) a1) ?_
  refine RG.ite (fun h3 => RG.brNF (q := 30) h3 rfl ?_) (fun h3 => RG.brNT (q := 90) h3 rfl ?_)
  · refine RG.step (m_X7_cover_1 v1 v2 M2 a1) ?_
    refine RG.st 2 (congrFun (congrFun (congrFun (congrFun b_X7_cover_7 v1) v2) M2) a1) ?_
    exact RG.to rfl (Rto.fgt [8] rfl)
  · exact RG.to rfl (Rto.refl _)
set_option maxRecDepth 100000 in
theorem b_X7_cover_8 : (fun (v1 : Int32) (v2 : Int32) (M2 : Mem) (a2 : (Int64 × Int64 × Int32)) => run C_X7_cover 2 (90, [some (.ref 0), some (.int v1), some (.int v2), some (.long a2.1), none, some (.long a2.2.1), none, some (.int a2.2.2), none, none], [], M2, 2)) = (fun (v1 : Int32) (v2 : Int32) (M2 : Mem) (a2 : (Int64 × Int64 × Int32)) => some (.inr (.inl (some (.long a2.1)), M2, 2))) := by rfl
def d_X7_cover (v1 : Int32) (v2 : Int32) (M : Mem) : Option (Res × Mem) := (onV (d_X7_needSet v1 M) (fun M1 => (onV (d_X7_needSet v2 M1) (fun M2 => (onIt (iter (g_X7_cover_1 v1 v2 M2) 20000 ((0 : Int64), (0 : Int64), (0 : Int32))) (fun (a2 : Int64 × Int64 × Int32) => some (.inl (some (.long a2.1)), M2)) (fun r => some r))) (fun r => some r))) (fun r => some r))
set_option maxHeartbeats 2000000 in
theorem r_X7_cover (v1 : Int32) (v2 : Int32) (M : Mem) : RG C_X7_cover (0, [some (.ref 0), some (.int v1), some (.int v2), none, none, none, none, none, none, none], [], M, 0) (d_X7_cover v1 v2 M) (fun r => .inr r) := by
  unfold d_X7_cover
  refine RG.st 2 (congrFun (congrFun (congrFun b_X7_cover_0 v1) v2) M) ?_
  refine RG.callV (fun M1 h1 => RG.st 1 (run_callV (v := none) rfl rfl rfl rfl rfl h1) ?_) (fun E M1 h1 => RG.fin rfl (Rend.run 1 (run_callVx rfl rfl rfl rfl rfl h1 rfl)))
  show RG C_X7_cover (5, [some (.ref 0), some (.int v1), some (.int v2), none, none, none, none, none, none, none], [], M1, 1) _ _
  refine RG.st 2 (congrFun (congrFun (congrFun b_X7_cover_1 v1) v2) M1) ?_
  refine RG.callV (fun M2 h2 => RG.st 1 (run_callV (v := none) rfl rfl rfl rfl rfl h2) ?_) (fun E M2 h2 => RG.fin rfl (Rend.run 1 (run_callVx rfl rfl rfl rfl rfl h2 rfl)))
  show RG C_X7_cover (10, [some (.ref 0), some (.int v1), some (.int v2), none, none, none, none, none, none, none], [], M2, 2) _ _
  refine RG.st 6 (congrFun (congrFun (congrFun b_X7_cover_2 v1) v2) M2) ?_
  refine RG.loop (hd := (fun (a1 : Int64 × Int64 × Int32) => (18, [some (.ref 0), some (.int v1), some (.int v2), some (.long a1.1), none, some (.long a1.2.1), none, some (.int a1.2.2), none, none], [], M2, 2))) (ex := (fun (a1 : Int64 × Int64 × Int32) => (90, [some (.ref 0), some (.int v1), some (.int v2), some (.long a1.1), none, some (.long a1.2.1), none, some (.int a1.2.2), none, none], [], M2, 2))) (rt := id) (l_X7_cover_1 v1 v2 M M2) (fun a2 => ?_) (fun r v h => by cases h; rfl)
  show RG C_X7_cover (90, [some (.ref 0), some (.int v1), some (.int v2), some (.long a2.1), none, some (.long a2.2.1), none, some (.int a2.2.2), none, none], [], M2, 2) _ _
  exact RG.fin rfl (Rend.run 2 (congrFun (congrFun (congrFun (congrFun b_X7_cover_8 v1) v2) M2) a2))
def fn_X7_cover : Fn := fun av M => match av with
  | [.ref r0, .int v1, .int v2] => bif Nat.beq r0 0 then (d_X7_cover v1 v2 M) else (none)
  | _ => none
theorem cfg_X7_cover : CfgOK RX7 cX7_cover (C_X7_cover) 7 := ⟨tk_X7_cover, csF_nd, flk_X7, (List.forall_mem_cons.mpr ⟨Or.inr ⟨yX7_needSet, cX7_needSet, 2, none, none, 6, ok_X7_needSet, by decide, by decide, w_code_Sumsetry_needSet__I_V, w_initialized_Sumsetry, ⟨by decide, by decide⟩, Or.inr (Or.inr ⟨rfl, rfl, show (parseMethodDescriptor yX7_needSet.desc).map (fun d => d.parameters.length + 1) = some 2 from by decide +kernel, w_methodLink_Sumsetry_98, w_instanceMethod_Sumsetry_needSet__I_V, w_selects_Sumsetry_needSet__I_V, ⟨_, rfl, rfl⟩⟩)⟩,
    List.forall_mem_cons.mpr ⟨Or.inr ⟨yX7_bitsOf, cX7_bitsOf, 2, (some .long), none, 1, ok_X7_bitsOf, by decide, by decide, w_code_Sumsetry_bitsOf__I_J, w_initialized_Sumsetry, ⟨by decide, by decide⟩, Or.inr (Or.inr ⟨rfl, rfl, show (parseMethodDescriptor yX7_bitsOf.desc).map (fun d => d.parameters.length + 1) = some 2 from by decide +kernel, w_methodLink_Sumsetry_103, w_instanceMethod_Sumsetry_bitsOf__I_J, w_selects_Sumsetry_bitsOf__I_J, ⟨_, rfl, rfl⟩⟩)⟩,
    List.forall_mem_cons.mpr ⟨Or.inr ⟨yX1_shifted, cX1_shifted, 10, (some .long), none, 2, ok_X1_shifted, by decide, by decide, w_code_Sumsetry_Group_shifted__JI_J, w_initialized_Sumsetry_Group, ⟨by decide, by decide⟩, Or.inr (Or.inr ⟨rfl, rfl, show (parseMethodDescriptor yX1_shifted.desc).map (fun d => d.parameters.length + 1) = some 3 from by decide +kernel, w_methodLink_Sumsetry_117, w_instanceMethod_Sumsetry_Group_shifted__JI_J, w_selects_Sumsetry_Group_shifted__JI_J, ⟨_, rfl, rfl⟩⟩)⟩,
    List.forall_mem_cons.mpr ⟨Or.inr ⟨yX7_bit, cX7_bit, 1, (some .long), none, 1, ok_X7_bit, by decide, by decide, w_code_Sumsetry_bit__I_J, w_initialized_Sumsetry, ⟨by decide, by decide⟩, Or.inl ⟨rfl, show (parseMethodDescriptor yX7_bit.desc).map (fun d => d.parameters.length) = some 1 from by decide +kernel, w_methodLink_Sumsetry_127, w_static_Sumsetry_bit__I_J⟩⟩,
    List.forall_mem_cons.mpr ⟨Or.inr ⟨yX7_has, cX7_has, 3, (some .boolean), none, 1, ok_X7_has, by decide, by decide, w_code_Sumsetry_has__JI_Z, w_initialized_Sumsetry, ⟨by decide, by decide⟩, Or.inl ⟨rfl, show (parseMethodDescriptor yX7_has.desc).map (fun d => d.parameters.length) = some 2 from by decide +kernel, w_methodLink_Sumsetry_150, w_static_Sumsetry_has__JI_Z⟩⟩, fun _ h => absurd h List.not_mem_nil⟩⟩⟩⟩⟩), ink_X7, lgk_X7, fun e h => absurd h List.not_mem_nil, (fun h hh => absurd hh List.not_mem_nil)⟩
theorem ok_X7_cover : OkM csF yX7_cover (Cond.code yX7_cover cX7_cover 10 (some .long)) 7 2 fn_X7_cover :=
  OkM_of (own := RX7) (C := C_X7_cover) (by decide +kernel) rfl (cfg_X7_cover) rfl rfl rfl rfl (by
    intro av M o M' h
    unfold fn_X7_cover at h
    split at h
    · rename_i r0 v1 v2
      rcases bif_cs h with ⟨hb, h⟩ | ⟨-, h⟩
      · skip
        have hr0 := hb
        obtain rfl := Nat.eq_of_beq_eq_true hr0
        exact ⟨rfl, Nat.le_of_ble_eq_true rfl, (r_X7_cover v1 v2 M) (o, M') h⟩
      · cases h
    · cases h)
def t_X7_sums : List (Nat × Instr × Nat) := [(0, .aload_n 0, 1), (1, .iload_n 1, 1), (2, .invokevirtual 98, 3), (5, .iconst 1, 1), (6, .iload_n 2, 1), (7, .bipush 100, 2), (9, .invokestatic 52, 3), (12, .ifCond .ne 13, 3), (15, .new 56, 3), (18, .dup, 1), (19, .ldc 154, 2), (21, .invokespecial 60, 3), (24, .athrow, 1), (25, .aload_n 0, 1), (26, .iload_n 1, 1), (27, .invokevirtual 103, 3), (30, .lstore_n 3, 1), (31, .iconst 1, 1), (32, .istore 5, 2), (34, .iload 5, 2), (36, .iload_n 2, 1), (37, .if_icmp .ge 23, 3), (40, .aload_n 0, 1), (41, .getfield 10, 3), (44, .lload_n 3, 1), (45, .aload_n 0, 1), (46, .iload_n 1, 1), (47, .invokevirtual 103, 3), (50, .invokevirtual 138, 3), (53, .lstore_n 3, 1), (54, .iinc 5 1, 3), (57, .goto (-23), 3), (60, .lload_n 3, 1), (61, .lreturn, 1)]
theorem tk_X7_sums : ∀ x ∈ t_X7_sums, decode cX7_sums x.1 = .ok x.2 := by decide +kernel
def C_X7_sums : Cfg := (t_X7_sums, csF, fl_X7, [(52, 0, 5, 3, 0, fn_X7_isFrom), (98, 2, 5, 2, 1, fn_X7_needSet), (103, 2, 5, 2, 0, fn_X7_bitsOf), (138, 2, 1, 3, 0, fn_X1_sumOf)], in_X7, lg_X7, [(15, "java/lang/IllegalArgumentException", 56, 154, 60, "many out of range")], [], none, (some .long), 2)
set_option maxRecDepth 100000 in
theorem b_X7_sums_0 : (fun (v1 : Int32) (v2 : Int32) (M : Mem) => run C_X7_sums 2 (0, [some (.ref 0), some (.int v1), some (.int v2), none, none, none], [], M, 0)) = (fun (v1 : Int32) (v2 : Int32) (M : Mem) => some (.inl (2, [some (.ref 0), some (.int v1), some (.int v2), none, none, none], [.int v1, .ref 0], M, 0))) := by rfl
set_option maxRecDepth 100000 in
theorem b_X7_sums_1 : (fun (v1 : Int32) (v2 : Int32) (M1 : Mem) => run C_X7_sums 5 (5, [some (.ref 0), some (.int v1), some (.int v2), none, none, none], [], M1, 1)) = (fun (v1 : Int32) (v2 : Int32) (M1 : Mem) => some (.inl ((br (!decide ((d_X7_isFrom (1 : Int32) v2 (100 : Int32)) = 0)) 12 3 (13)), [some (.ref 0), some (.int v1), some (.int v2), none, none, none], [], M1, 1))) := by rfl
set_option maxRecDepth 100000 in
theorem b_X7_sums_2 : (fun (v1 : Int32) (v2 : Int32) (M1 : Mem) => run C_X7_sums 1 (15, [some (.ref 0), some (.int v1), some (.int v2), none, none, none], [], M1, 1)) = (fun (v1 : Int32) (v2 : Int32) (M1 : Mem) => some (.inr (.inr "java/lang/IllegalArgumentException", M1, 2))) := by rfl
set_option maxRecDepth 100000 in
theorem b_X7_sums_3 : (fun (v1 : Int32) (v2 : Int32) (M1 : Mem) => run C_X7_sums 6 (25, [some (.ref 0), some (.int v1), some (.int v2), none, none, none], [], M1, 1)) = (fun (v1 : Int32) (v2 : Int32) (M1 : Mem) => some (.inl (34, [some (.ref 0), some (.int v1), some (.int v2), some (.long (d_X7_bitsOf v1 M1)), none, some (.int (1 : Int32))], [], M1, 1))) := by rfl
set_option maxRecDepth 100000 in
theorem b_X7_sums_4 : (fun (v1 : Int32) (v2 : Int32) (M1 : Mem) (a1 : (Int64 × Int32)) => run C_X7_sums 3 (34, [some (.ref 0), some (.int v1), some (.int v2), some (.long a1.1), none, some (.int a1.2)], [], M1, 1)) = (fun (v1 : Int32) (v2 : Int32) (M1 : Mem) (a1 : (Int64 × Int32)) => some (.inl ((br (!decide (a1.2 < v2)) 37 3 (23)), [some (.ref 0), some (.int v1), some (.int v2), some (.long a1.1), none, some (.int a1.2)], [], M1, 1))) := by rfl
set_option maxRecDepth 100000 in
theorem b_X7_sums_5 : (fun (v1 : Int32) (v2 : Int32) (M1 : Mem) (a1 : (Int64 × Int32)) => run C_X7_sums 6 (40, [some (.ref 0), some (.int v1), some (.int v2), some (.long a1.1), none, some (.int a1.2)], [], M1, 1)) = (fun (v1 : Int32) (v2 : Int32) (M1 : Mem) (a1 : (Int64 × Int32)) => some (.inl (50, [some (.ref 0), some (.int v1), some (.int v2), some (.long a1.1), none, some (.int a1.2)], [.long (d_X7_bitsOf v1 M1), .long a1.1, .ref 2], M1, 1))) := by rfl
set_option maxRecDepth 100000 in
theorem b_X7_sums_6 : (fun (v1 : Int32) (v2 : Int32) (M1 : Mem) (a1 : (Int64 × Int32)) (w2 : Int64) => run C_X7_sums 3 (53, [some (.ref 0), some (.int v1), some (.int v2), some (.long a1.1), none, some (.int a1.2)], [.long w2], M1, 1)) = (fun (v1 : Int32) (v2 : Int32) (M1 : Mem) (a1 : (Int64 × Int32)) (w2 : Int64) => some (.inl (34, [some (.ref 0), some (.int v1), some (.int v2), some (.long w2), none, some (.int (a1.2 + (1 : Int32)))], [], M1, 1))) := by rfl
def g_X7_sums_1 (v1 : Int32) (v2 : Int32) (M1 : Mem) : Int64 × Int32 → Option ((Int64 × Int32) ⊕ ((Int64 × Int32) ⊕ (Res × Mem))) := fun (a1 : Int64 × Int32) => (if a1.2 < v2 then ((d_X1_sumOf a1.1 (d_X7_bitsOf v1 M1) M1).bind fun w2 => some (.inl (w2, (a1.2 + (1 : Int32))))) else some (.inr (.inl (a1.1, a1.2))))
set_option maxHeartbeats 2000000 in
theorem l_X7_sums_1 (v1 : Int32) (v2 : Int32) (M : Mem) (M1 : Mem) : ∀ a1 : Int64 × Int32, RG C_X7_sums ((fun (a1 : Int64 × Int32) => (34, [some (.ref 0), some (.int v1), some (.int v2), some (.long a1.1), none, some (.int a1.2)], [], M1, 1)) a1) (g_X7_sums_1 v1 v2 M1 a1) (lpP (fun (a1 : Int64 × Int32) => (34, [some (.ref 0), some (.int v1), some (.int v2), some (.long a1.1), none, some (.int a1.2)], [], M1, 1)) (fun (a1 : Int64 × Int32) => (60, [some (.ref 0), some (.int v1), some (.int v2), some (.long a1.1), none, some (.int a1.2)], [], M1, 1)) id) := by
  intro a1
  unfold g_X7_sums_1
  show RG C_X7_sums (34, [some (.ref 0), some (.int v1), some (.int v2), some (.long a1.1), none, some (.int a1.2)], [], M1, 1) _ _
  refine RG.st 3 (congrFun (congrFun (congrFun (congrFun b_X7_sums_4 v1) v2) M1) a1) ?_
  refine RG.ite (fun h3 => RG.brNF (q := 40) h3 rfl ?_) (fun h3 => RG.brNT (q := 60) h3 rfl ?_)
  · refine RG.st 6 (congrFun (congrFun (congrFun (congrFun b_X7_sums_5 v1) v2) M1) a1) ?_
    refine RG.bind (fun w2 h4 => RG.st 1 (run_callV (v := some (.long w2)) rfl rfl rfl rfl rfl (bindL h4)) ?_)
    show RG C_X7_sums (53, [some (.ref 0), some (.int v1), some (.int v2), some (.long a1.1), none, some (.int a1.2)], [.long w2], M1, 1) _ _
    refine RG.st 3 (congrFun (congrFun (congrFun (congrFun (congrFun b_X7_sums_6 v1) v2) M1) a1) w2) ?_
    exact RG.to rfl (Rto.refl _)
  · exact RG.to rfl (Rto.refl _)
set_option maxRecDepth 100000 in
theorem b_X7_sums_7 : (fun (v1 : Int32) (v2 : Int32) (M1 : Mem) (a2 : (Int64 × Int32)) => run C_X7_sums 2 (60, [some (.ref 0), some (.int v1), some (.int v2), some (.long a2.1), none, some (.int a2.2)], [], M1, 1)) = (fun (v1 : Int32) (v2 : Int32) (M1 : Mem) (a2 : (Int64 × Int32)) => some (.inr (.inl (some (.long a2.1)), M1, 1))) := by rfl
def d_X7_sums (v1 : Int32) (v2 : Int32) (M : Mem) : Option (Res × Mem) := (onV (d_X7_needSet v1 M) (fun M1 => (if (d_X7_isFrom (1 : Int32) v2 (100 : Int32)) = 0 then some (.inr "java/lang/IllegalArgumentException", M1) else (onIt (iter (g_X7_sums_1 v1 v2 M1) 20000 ((d_X7_bitsOf v1 M1), (1 : Int32))) (fun (a2 : Int64 × Int32) => some (.inl (some (.long a2.1)), M1)) (fun r => some r)))) (fun r => some r))
set_option maxHeartbeats 2000000 in
theorem r_X7_sums (v1 : Int32) (v2 : Int32) (M : Mem) : RG C_X7_sums (0, [some (.ref 0), some (.int v1), some (.int v2), none, none, none], [], M, 0) (d_X7_sums v1 v2 M) (fun r => .inr r) := by
  unfold d_X7_sums
  refine RG.st 2 (congrFun (congrFun (congrFun b_X7_sums_0 v1) v2) M) ?_
  refine RG.callV (fun M1 h1 => RG.st 1 (run_callV (v := none) rfl rfl rfl rfl rfl h1) ?_) (fun E M1 h1 => RG.fin rfl (Rend.run 1 (run_callVx rfl rfl rfl rfl rfl h1 rfl)))
  show RG C_X7_sums (5, [some (.ref 0), some (.int v1), some (.int v2), none, none, none], [], M1, 1) _ _
  refine RG.st 5 (congrFun (congrFun (congrFun b_X7_sums_1 v1) v2) M1) ?_
  refine RG.ite (fun h2 => RG.brNF (q := 15) h2 rfl ?_) (fun h2 => RG.brNT (q := 25) h2 rfl ?_)
  · exact RG.fin rfl (Rend.run 1 (congrFun (congrFun (congrFun b_X7_sums_2 v1) v2) M1))
  · refine RG.st 6 (congrFun (congrFun (congrFun b_X7_sums_3 v1) v2) M1) ?_
    refine RG.loop (hd := (fun (a1 : Int64 × Int32) => (34, [some (.ref 0), some (.int v1), some (.int v2), some (.long a1.1), none, some (.int a1.2)], [], M1, 1))) (ex := (fun (a1 : Int64 × Int32) => (60, [some (.ref 0), some (.int v1), some (.int v2), some (.long a1.1), none, some (.int a1.2)], [], M1, 1))) (rt := id) (l_X7_sums_1 v1 v2 M M1) (fun a2 => ?_) (fun r v h => by cases h; rfl)
    show RG C_X7_sums (60, [some (.ref 0), some (.int v1), some (.int v2), some (.long a2.1), none, some (.int a2.2)], [], M1, 1) _ _
    exact RG.fin rfl (Rend.run 2 (congrFun (congrFun (congrFun (congrFun b_X7_sums_7 v1) v2) M1) a2))
def fn_X7_sums : Fn := fun av M => match av with
  | [.ref r0, .int v1, .int v2] => bif Nat.beq r0 0 then (d_X7_sums v1 v2 M) else (none)
  | _ => none
theorem cfg_X7_sums : CfgOK RX7 cX7_sums (C_X7_sums) 7 := ⟨tk_X7_sums, csF_nd, flk_X7, (List.forall_mem_cons.mpr ⟨Or.inr ⟨yX7_isFrom, cX7_isFrom, 3, (some .boolean), none, 1, ok_X7_isFrom, by decide, by decide, w_code_Sumsetry_isFrom__III_Z, w_initialized_Sumsetry, ⟨by decide, by decide⟩, Or.inl ⟨rfl, show (parseMethodDescriptor yX7_isFrom.desc).map (fun d => d.parameters.length) = some 3 from by decide +kernel, w_methodLink_Sumsetry_52, w_static_Sumsetry_isFrom__III_Z⟩⟩,
    List.forall_mem_cons.mpr ⟨Or.inr ⟨yX7_needSet, cX7_needSet, 2, none, none, 6, ok_X7_needSet, by decide, by decide, w_code_Sumsetry_needSet__I_V, w_initialized_Sumsetry, ⟨by decide, by decide⟩, Or.inr (Or.inr ⟨rfl, rfl, show (parseMethodDescriptor yX7_needSet.desc).map (fun d => d.parameters.length + 1) = some 2 from by decide +kernel, w_methodLink_Sumsetry_98, w_instanceMethod_Sumsetry_needSet__I_V, w_selects_Sumsetry_needSet__I_V, ⟨_, rfl, rfl⟩⟩)⟩,
    List.forall_mem_cons.mpr ⟨Or.inr ⟨yX7_bitsOf, cX7_bitsOf, 2, (some .long), none, 1, ok_X7_bitsOf, by decide, by decide, w_code_Sumsetry_bitsOf__I_J, w_initialized_Sumsetry, ⟨by decide, by decide⟩, Or.inr (Or.inr ⟨rfl, rfl, show (parseMethodDescriptor yX7_bitsOf.desc).map (fun d => d.parameters.length + 1) = some 2 from by decide +kernel, w_methodLink_Sumsetry_103, w_instanceMethod_Sumsetry_bitsOf__I_J, w_selects_Sumsetry_bitsOf__I_J, ⟨_, rfl, rfl⟩⟩)⟩,
    List.forall_mem_cons.mpr ⟨Or.inr ⟨yX1_sumOf, cX1_sumOf, 10, (some .long), none, 4, ok_X1_sumOf, by decide, by decide, w_code_Sumsetry_Group_sumOf__JJ_J, w_initialized_Sumsetry_Group, ⟨by decide, by decide⟩, Or.inr (Or.inr ⟨rfl, rfl, show (parseMethodDescriptor yX1_sumOf.desc).map (fun d => d.parameters.length + 1) = some 3 from by decide +kernel, w_methodLink_Sumsetry_138, w_instanceMethod_Sumsetry_Group_sumOf__JJ_J, w_selects_Sumsetry_Group_sumOf__JJ_J, ⟨_, rfl, rfl⟩⟩)⟩, fun _ h => absurd h List.not_mem_nil⟩⟩⟩⟩), ink_X7, lgk_X7, by decide +kernel, (fun h hh => absurd hh List.not_mem_nil)⟩
theorem ok_X7_sums : OkM csF yX7_sums (Cond.code yX7_sums cX7_sums 6 (some .long)) 7 2 fn_X7_sums :=
  OkM_of (own := RX7) (C := C_X7_sums) (by decide +kernel) rfl (cfg_X7_sums) rfl rfl rfl rfl (by
    intro av M o M' h
    unfold fn_X7_sums at h
    split at h
    · rename_i r0 v1 v2
      rcases bif_cs h with ⟨hb, h⟩ | ⟨-, h⟩
      · skip
        have hr0 := hb
        obtain rfl := Nat.eq_of_beq_eq_true hr0
        exact ⟨rfl, Nat.le_of_ble_eq_true rfl, (r_X7_sums v1 v2 M) (o, M') h⟩
      · cases h
    · cases h)
def t_X7_order : List (Nat × Instr × Nat) := [(0, .aload_n 0, 1), (1, .iload_n 1, 1), (2, .invokevirtual 98, 3), (5, .aload_n 0, 1), (6, .getfield 10, 3), (9, .aload_n 0, 1), (10, .iload_n 1, 1), (11, .invokevirtual 103, 3), (14, .invokevirtual 156, 3), (17, .ireturn, 1)]
theorem tk_X7_order : ∀ x ∈ t_X7_order, decode cX7_order x.1 = .ok x.2 := by decide +kernel
def C_X7_order : Cfg := (t_X7_order, csF, fl_X7, [(98, 2, 5, 2, 1, fn_X7_needSet), (103, 2, 5, 2, 0, fn_X7_bitsOf), (156, 2, 1, 2, 0, fn_X1_orderOf)], in_X7, lg_X7, [], [], none, (some .int), 1)
set_option maxRecDepth 100000 in
theorem b_X7_order_0 : (fun (v1 : Int32) (M : Mem) => run C_X7_order 2 (0, [some (.ref 0), some (.int v1)], [], M, 0)) = (fun (v1 : Int32) (M : Mem) => some (.inl (2, [some (.ref 0), some (.int v1)], [.int v1, .ref 0], M, 0))) := by rfl
set_option maxRecDepth 100000 in
theorem b_X7_order_1 : (fun (v1 : Int32) (M1 : Mem) => run C_X7_order 5 (5, [some (.ref 0), some (.int v1)], [], M1, 1)) = (fun (v1 : Int32) (M1 : Mem) => some (.inl (14, [some (.ref 0), some (.int v1)], [.long (d_X7_bitsOf v1 M1), .ref 2], M1, 1))) := by rfl
set_option maxRecDepth 100000 in
theorem b_X7_order_2 : (fun (v1 : Int32) (M1 : Mem) (w2 : Int32) => run C_X7_order 1 (17, [some (.ref 0), some (.int v1)], [.int w2], M1, 1)) = (fun (v1 : Int32) (M1 : Mem) (w2 : Int32) => some (.inr (.inl (some (.int w2)), M1, 1))) := by rfl
def d_X7_order (v1 : Int32) (M : Mem) : Option (Res × Mem) := (onV (d_X7_needSet v1 M) (fun M1 => ((d_X1_orderOf (d_X7_bitsOf v1 M1) M1).bind fun w2 => some (.inl (some (.int w2)), M1))) (fun r => some r))
set_option maxHeartbeats 2000000 in
theorem r_X7_order (v1 : Int32) (M : Mem) : RG C_X7_order (0, [some (.ref 0), some (.int v1)], [], M, 0) (d_X7_order v1 M) (fun r => .inr r) := by
  unfold d_X7_order
  refine RG.st 2 (congrFun (congrFun b_X7_order_0 v1) M) ?_
  refine RG.callV (fun M1 h1 => RG.st 1 (run_callV (v := none) rfl rfl rfl rfl rfl h1) ?_) (fun E M1 h1 => RG.fin rfl (Rend.run 1 (run_callVx rfl rfl rfl rfl rfl h1 rfl)))
  show RG C_X7_order (5, [some (.ref 0), some (.int v1)], [], M1, 1) _ _
  refine RG.st 5 (congrFun (congrFun b_X7_order_1 v1) M1) ?_
  refine RG.bind (fun w2 h2 => RG.st 1 (run_callV (v := some (.int w2)) rfl rfl rfl rfl rfl (bindI h2)) ?_)
  show RG C_X7_order (17, [some (.ref 0), some (.int v1)], [.int w2], M1, 1) _ _
  exact RG.fin rfl (Rend.run 1 (congrFun (congrFun (congrFun b_X7_order_2 v1) M1) w2))
def fn_X7_order : Fn := fun av M => match av with
  | [.ref r0, .int v1] => bif Nat.beq r0 0 then (d_X7_order v1 M) else (none)
  | _ => none
theorem cfg_X7_order : CfgOK RX7 cX7_order (C_X7_order) 7 := ⟨tk_X7_order, csF_nd, flk_X7, (List.forall_mem_cons.mpr ⟨Or.inr ⟨yX7_needSet, cX7_needSet, 2, none, none, 6, ok_X7_needSet, by decide, by decide, w_code_Sumsetry_needSet__I_V, w_initialized_Sumsetry, ⟨by decide, by decide⟩, Or.inr (Or.inr ⟨rfl, rfl, show (parseMethodDescriptor yX7_needSet.desc).map (fun d => d.parameters.length + 1) = some 2 from by decide +kernel, w_methodLink_Sumsetry_98, w_instanceMethod_Sumsetry_needSet__I_V, w_selects_Sumsetry_needSet__I_V, ⟨_, rfl, rfl⟩⟩)⟩,
    List.forall_mem_cons.mpr ⟨Or.inr ⟨yX7_bitsOf, cX7_bitsOf, 2, (some .long), none, 1, ok_X7_bitsOf, by decide, by decide, w_code_Sumsetry_bitsOf__I_J, w_initialized_Sumsetry, ⟨by decide, by decide⟩, Or.inr (Or.inr ⟨rfl, rfl, show (parseMethodDescriptor yX7_bitsOf.desc).map (fun d => d.parameters.length + 1) = some 2 from by decide +kernel, w_methodLink_Sumsetry_103, w_instanceMethod_Sumsetry_bitsOf__I_J, w_selects_Sumsetry_bitsOf__I_J, ⟨_, rfl, rfl⟩⟩)⟩,
    List.forall_mem_cons.mpr ⟨Or.inr ⟨yX1_orderOf, cX1_orderOf, 6, (some .int), none, 5, ok_X1_orderOf, by decide, by decide, w_code_Sumsetry_Group_orderOf__J_I, w_initialized_Sumsetry_Group, ⟨by decide, by decide⟩, Or.inr (Or.inr ⟨rfl, rfl, show (parseMethodDescriptor yX1_orderOf.desc).map (fun d => d.parameters.length + 1) = some 2 from by decide +kernel, w_methodLink_Sumsetry_156, w_instanceMethod_Sumsetry_Group_orderOf__J_I, w_selects_Sumsetry_Group_orderOf__J_I, ⟨_, rfl, rfl⟩⟩)⟩, fun _ h => absurd h List.not_mem_nil⟩⟩⟩), ink_X7, lgk_X7, fun e h => absurd h List.not_mem_nil, (fun h hh => absurd hh List.not_mem_nil)⟩
theorem ok_X7_order : OkM csF yX7_order (Cond.code yX7_order cX7_order 2 (some .int)) 7 1 fn_X7_order :=
  OkM_of (own := RX7) (C := C_X7_order) (by decide +kernel) rfl (cfg_X7_order) rfl rfl rfl rfl (by
    intro av M o M' h
    unfold fn_X7_order at h
    split at h
    · rename_i r0 v1
      rcases bif_cs h with ⟨hb, h⟩ | ⟨-, h⟩
      · skip
        have hr0 := hb
        obtain rfl := Nat.eq_of_beq_eq_true hr0
        exact ⟨rfl, Nat.le_of_ble_eq_true rfl, (r_X7_order v1 M) (o, M') h⟩
      · cases h
    · cases h)
def t_X7_essential : List (Nat × Instr × Nat) := [(0, .aload_n 0, 1), (1, .iload_n 1, 1), (2, .invokevirtual 98, 3), (5, .aload_n 0, 1), (6, .iload_n 1, 1), (7, .invokevirtual 103, 3), (10, .lstore_n 2, 1), (11, .aload_n 0, 1), (12, .getfield 10, 3), (15, .lload_n 2, 1), (16, .invokevirtual 156, 3), (19, .iconst (-1), 1), (20, .if_icmp .ne 5, 3), (23, .lconst 0, 1), (24, .lreturn, 1), (25, .lconst 0, 1), (26, .lstore 4, 2), (28, .iconst 0, 1), (29, .istore 6, 2), (31, .iload 6, 2), (33, .aload_n 0, 1), (34, .getfield 10, 3), (37, .getfield 73, 3), (40, .if_icmp .ge 50, 3), (43, .lload_n 2, 1), (44, .iload 6, 2), (46, .invokestatic 150, 3), (49, .ifCond .eq 35, 3), (52, .aload_n 0, 1), (53, .getfield 10, 3), (56, .lload_n 2, 1), (57, .iload 6, 2), (59, .invokestatic 127, 3), (62, .ldc2_w 159, 3), (65, .lxor, 1), (66, .land, 1), (67, .invokevirtual 156, 3), (70, .iconst (-1), 1), (71, .if_icmp .ne 13, 3), (74, .lload 4, 2), (76, .iload 6, 2), (78, .invokestatic 127, 3), (81, .lor, 1), (82, .lstore 4, 2), (84, .iinc 6 1, 3), (87, .goto (-56), 3), (90, .lload 4, 2), (92, .lreturn, 1)]
theorem tk_X7_essential : ∀ x ∈ t_X7_essential, decode cX7_essential x.1 = .ok x.2 := by decide +kernel
def C_X7_essential : Cfg := (t_X7_essential, csF, fl_X7, [(98, 2, 5, 2, 1, fn_X7_needSet), (103, 2, 5, 2, 0, fn_X7_bitsOf), (127, 0, 5, 1, 0, fn_X7_bit), (150, 0, 5, 2, 0, fn_X7_has), (156, 2, 1, 2, 0, fn_X1_orderOf)], in_X7, lg_X7, [], [], none, (some .long), 1)
set_option maxRecDepth 100000 in
theorem b_X7_essential_0 : (fun (v1 : Int32) (M : Mem) => run C_X7_essential 2 (0, [some (.ref 0), some (.int v1), none, none, none, none, none], [], M, 0)) = (fun (v1 : Int32) (M : Mem) => some (.inl (2, [some (.ref 0), some (.int v1), none, none, none, none, none], [.int v1, .ref 0], M, 0))) := by rfl
set_option maxRecDepth 100000 in
theorem b_X7_essential_1 : (fun (v1 : Int32) (M1 : Mem) => run C_X7_essential 7 (5, [some (.ref 0), some (.int v1), none, none, none, none, none], [], M1, 1)) = (fun (v1 : Int32) (M1 : Mem) => some (.inl (16, [some (.ref 0), some (.int v1), some (.long (d_X7_bitsOf v1 M1)), none, none, none, none], [.long (d_X7_bitsOf v1 M1), .ref 2], M1, 1))) := by rfl
set_option maxRecDepth 100000 in
theorem b_X7_essential_2 : (fun (v1 : Int32) (M1 : Mem) (w2 : Int32) => run C_X7_essential 2 (19, [some (.ref 0), some (.int v1), some (.long (d_X7_bitsOf v1 M1)), none, none, none, none], [.int w2], M1, 1)) = (fun (v1 : Int32) (M1 : Mem) (w2 : Int32) => some (.inl ((br (!decide (w2 = (-1 : Int32))) 20 3 (5)), [some (.ref 0), some (.int v1), some (.long (d_X7_bitsOf v1 M1)), none, none, none, none], [], M1, 1))) := by rfl
set_option maxRecDepth 100000 in
theorem b_X7_essential_3 : (fun (v1 : Int32) (M1 : Mem) => run C_X7_essential 2 (23, [some (.ref 0), some (.int v1), some (.long (d_X7_bitsOf v1 M1)), none, none, none, none], [], M1, 1)) = (fun (v1 : Int32) (M1 : Mem) => some (.inr (.inl (some (.long (0 : Int64))), M1, 1))) := by rfl
set_option maxRecDepth 100000 in
theorem b_X7_essential_4 : (fun (v1 : Int32) (M1 : Mem) => run C_X7_essential 4 (25, [some (.ref 0), some (.int v1), some (.long (d_X7_bitsOf v1 M1)), none, none, none, none], [], M1, 1)) = (fun (v1 : Int32) (M1 : Mem) => some (.inl (31, [some (.ref 0), some (.int v1), some (.long (d_X7_bitsOf v1 M1)), none, some (.long (0 : Int64)), none, some (.int (0 : Int32))], [], M1, 1))) := by rfl
set_option maxRecDepth 100000 in
theorem b_X7_essential_5 : (fun (v1 : Int32) (M1 : Mem) (a1 : (Int64 × Int32)) => run C_X7_essential 5 (31, [some (.ref 0), some (.int v1), some (.long (d_X7_bitsOf v1 M1)), none, some (.long a1.1), none, some (.int a1.2)], [], M1, 1)) = (fun (v1 : Int32) (M1 : Mem) (a1 : (Int64 × Int32)) => some (.inl ((br (!decide (a1.2 < (M1.1 2 2))) 40 3 (50)), [some (.ref 0), some (.int v1), some (.long (d_X7_bitsOf v1 M1)), none, some (.long a1.1), none, some (.int a1.2)], [], M1, 1))) := by rfl
set_option maxRecDepth 100000 in
theorem b_X7_essential_6 : (fun (v1 : Int32) (M1 : Mem) (a1 : (Int64 × Int32)) => run C_X7_essential 4 (43, [some (.ref 0), some (.int v1), some (.long (d_X7_bitsOf v1 M1)), none, some (.long a1.1), none, some (.int a1.2)], [], M1, 1)) = (fun (v1 : Int32) (M1 : Mem) (a1 : (Int64 × Int32)) => some (.inl ((br (decide ((d_X7_has (d_X7_bitsOf v1 M1) a1.2) = 0)) 49 3 (35)), [some (.ref 0), some (.int v1), some (.long (d_X7_bitsOf v1 M1)), none, some (.long a1.1), none, some (.int a1.2)], [], M1, 1))) := by rfl
set_option maxRecDepth 100000 in
theorem b_X7_essential_7 : (fun (v1 : Int32) (M1 : Mem) (a1 : (Int64 × Int32)) => run C_X7_essential 2 (84, [some (.ref 0), some (.int v1), some (.long (d_X7_bitsOf v1 M1)), none, some (.long a1.1), none, some (.int a1.2)], [], M1, 1)) = (fun (v1 : Int32) (M1 : Mem) (a1 : (Int64 × Int32)) => some (.inl (31, [some (.ref 0), some (.int v1), some (.long (d_X7_bitsOf v1 M1)), none, some (.long a1.1), none, some (.int (a1.2 + (1 : Int32)))], [], M1, 1))) := by rfl
set_option maxRecDepth 100000 in
theorem b_X7_essential_8 : (fun (v1 : Int32) (M1 : Mem) (a1 : (Int64 × Int32)) => run C_X7_essential 8 (52, [some (.ref 0), some (.int v1), some (.long (d_X7_bitsOf v1 M1)), none, some (.long a1.1), none, some (.int a1.2)], [], M1, 1)) = (fun (v1 : Int32) (M1 : Mem) (a1 : (Int64 × Int32)) => some (.inl (67, [some (.ref 0), some (.int v1), some (.long (d_X7_bitsOf v1 M1)), none, some (.long a1.1), none, some (.int a1.2)], [.long ((d_X7_bitsOf v1 M1) &&& ((d_X7_bit a1.2) ^^^ (-1 : Int64))), .ref 2], M1, 1))) := by rfl
set_option maxRecDepth 100000 in
theorem b_X7_essential_9 : (fun (v1 : Int32) (M1 : Mem) (a1 : (Int64 × Int32)) (w3 : Int32) => run C_X7_essential 2 (70, [some (.ref 0), some (.int v1), some (.long (d_X7_bitsOf v1 M1)), none, some (.long a1.1), none, some (.int a1.2)], [.int w3], M1, 1)) = (fun (v1 : Int32) (M1 : Mem) (a1 : (Int64 × Int32)) (w3 : Int32) => some (.inl ((br (!decide (w3 = (-1 : Int32))) 71 3 (13)), [some (.ref 0), some (.int v1), some (.long (d_X7_bitsOf v1 M1)), none, some (.long a1.1), none, some (.int a1.2)], [], M1, 1))) := by rfl
set_option maxRecDepth 100000 in
theorem b_X7_essential_10 : (fun (v1 : Int32) (M1 : Mem) (a1 : (Int64 × Int32)) => run C_X7_essential 5 (74, [some (.ref 0), some (.int v1), some (.long (d_X7_bitsOf v1 M1)), none, some (.long a1.1), none, some (.int a1.2)], [], M1, 1)) = (fun (v1 : Int32) (M1 : Mem) (a1 : (Int64 × Int32)) => some (.inl (84, [some (.ref 0), some (.int v1), some (.long (d_X7_bitsOf v1 M1)), none, some (.long (a1.1 ||| (d_X7_bit a1.2))), none, some (.int a1.2)], [], M1, 1))) := by rfl
theorem m_X7_essential_0 (v1 : Int32) (M1 : Mem) (a1 : (Int64 × Int32)) (w3 : Int32) : Rto C_X7_essential (70, [some (.ref 0), some (.int v1), some (.long (d_X7_bitsOf v1 M1)), none, some (.long a1.1), none, some (.int a1.2)], [.int w3], M1, 1) (84, [some (.ref 0), some (.int v1), some (.long (d_X7_bitsOf v1 M1)), none, some (.long (if w3 = (-1 : Int32) then (a1.1 ||| (d_X7_bit a1.2)) else a1.1)), none, some (.int a1.2)], [], M1, 1) := by
  refine Rto.trans (Rto.run 2 (congrFun (congrFun (congrFun (congrFun b_X7_essential_9 v1) M1) a1) w3)) ?_
  by_cases h : w3 = (-1 : Int32)
  · refine Rto.trans (Rto.brNF (q := 74) h rfl) ?_
    refine Rto.trans (Rto.run 5 (congrFun (congrFun (congrFun b_X7_essential_10 v1) M1) a1)) ?_
    exact Rto.eq (by first | (simp only [if_pos h]; done) | rfl | exact absurd rfl h | (simp; done))
  · refine Rto.trans (Rto.brNT (q := 84) h rfl) ?_
    exact Rto.eq (by first | (simp only [if_neg h]; done) | rfl | exact absurd rfl h | (simp; done))
set_option maxRecDepth 100000 in
theorem b_X7_essential_11 : (fun (v1 : Int32) (M1 : Mem) (a1 : (Int64 × Int32)) (w3 : Int32) => run C_X7_essential 2 (84, [some (.ref 0), some (.int v1), some (.long (d_X7_bitsOf v1 M1)), none, some (.long (if w3 = (-1 : Int32) then (a1.1 ||| (d_X7_bit a1.2)) else a1.1)), none, some (.int a1.2)], [], M1, 1)) = (fun (v1 : Int32) (M1 : Mem) (a1 : (Int64 × Int32)) (w3 : Int32) => some (.inl (31, [some (.ref 0), some (.int v1), some (.long (d_X7_bitsOf v1 M1)), none, some (.long (if w3 = (-1 : Int32) then (a1.1 ||| (d_X7_bit a1.2)) else a1.1)), none, some (.int (a1.2 + (1 : Int32)))], [], M1, 1))) := by rfl
def g_X7_essential_1 (v1 : Int32) (M1 : Mem) : Int64 × Int32 → Option ((Int64 × Int32) ⊕ ((Int64 × Int32) ⊕ (Res × Mem))) := fun (a1 : Int64 × Int32) => (if a1.2 < (M1.1 2 2) then (if (d_X7_has (d_X7_bitsOf v1 M1) a1.2) = 0 then some (.inl (a1.1, (a1.2 + (1 : Int32)))) else ((d_X1_orderOf ((d_X7_bitsOf v1 M1) &&& ((d_X7_bit a1.2) ^^^ (-1 : Int64))) M1).bind fun w3 => some (.inl ((if w3 = (-1 : Int32) then (a1.1 ||| (d_X7_bit a1.2)) else a1.1), (a1.2 + (1 : Int32)))))) else some (.inr (.inl (a1.1, a1.2))))
set_option maxHeartbeats 2000000 in
theorem l_X7_essential_1 (v1 : Int32) (M : Mem) (M1 : Mem) : ∀ a1 : Int64 × Int32, RG C_X7_essential ((fun (a1 : Int64 × Int32) => (31, [some (.ref 0), some (.int v1), some (.long (d_X7_bitsOf v1 M1)), none, some (.long a1.1), none, some (.int a1.2)], [], M1, 1)) a1) (g_X7_essential_1 v1 M1 a1) (lpP (fun (a1 : Int64 × Int32) => (31, [some (.ref 0), some (.int v1), some (.long (d_X7_bitsOf v1 M1)), none, some (.long a1.1), none, some (.int a1.2)], [], M1, 1)) (fun (a1 : Int64 × Int32) => (90, [some (.ref 0), some (.int v1), some (.long (d_X7_bitsOf v1 M1)), none, some (.long a1.1), none, some (.int a1.2)], [], M1, 1)) id) := by
  intro a1
  unfold g_X7_essential_1
  show RG C_X7_essential (31, [some (.ref 0), some (.int v1), some (.long (d_X7_bitsOf v1 M1)), none, some (.long a1.1), none, some (.int a1.2)], [], M1, 1) _ _
  refine RG.st 5 (congrFun (congrFun (congrFun b_X7_essential_5 v1) M1) a1) ?_
  refine RG.ite (fun h4 => RG.brNF (q := 43) h4 rfl ?_) (fun h4 => RG.brNT (q := 90) h4 rfl ?_)
  · refine RG.st 4 (congrFun (congrFun (congrFun b_X7_essential_6 v1) M1) a1) ?_
    refine RG.ite (fun h5 => RG.brT (q := 84) h5 rfl ?_) (fun h5 => RG.brF (q := 52) h5 rfl ?_)
    · refine RG.st 2 (congrFun (congrFun (congrFun b_X7_essential_7 v1) M1) a1) ?_
      exact RG.to rfl (Rto.refl _)
    · refine RG.st 8 (congrFun (congrFun (congrFun b_X7_essential_8 v1) M1) a1) ?_
      refine RG.bind (fun w3 h6 => RG.st 1 (run_callV (v := some (.int w3)) rfl rfl rfl rfl rfl (bindI h6)) ?_)
      show RG C_X7_essential (70, [some (.ref 0), some (.int v1), some (.long (d_X7_bitsOf v1 M1)), none, some (.long a1.1), none, some (.int a1.2)], [.int w3], M1, 1) _ _
      refine RG.step (m_X7_essential_0 v1 M1 a1 w3) ?_
      refine RG.st 2 (congrFun (congrFun (congrFun (congrFun b_X7_essential_11 v1) M1) a1) w3) ?_
      exact RG.to rfl (Rto.refl _)
  · exact RG.to rfl (Rto.refl _)
set_option maxRecDepth 100000 in
theorem b_X7_essential_12 : (fun (v1 : Int32) (M1 : Mem) (a2 : (Int64 × Int32)) => run C_X7_essential 2 (90, [some (.ref 0), some (.int v1), some (.long (d_X7_bitsOf v1 M1)), none, some (.long a2.1), none, some (.int a2.2)], [], M1, 1)) = (fun (v1 : Int32) (M1 : Mem) (a2 : (Int64 × Int32)) => some (.inr (.inl (some (.long a2.1)), M1, 1))) := by rfl
def d_X7_essential (v1 : Int32) (M : Mem) : Option (Res × Mem) := (onV (d_X7_needSet v1 M) (fun M1 => ((d_X1_orderOf (d_X7_bitsOf v1 M1) M1).bind fun w2 => (if w2 = (-1 : Int32) then some (.inl (some (.long (0 : Int64))), M1) else (onIt (iter (g_X7_essential_1 v1 M1) 20000 ((0 : Int64), (0 : Int32))) (fun (a2 : Int64 × Int32) => some (.inl (some (.long a2.1)), M1)) (fun r => some r))))) (fun r => some r))
set_option maxHeartbeats 2000000 in
theorem r_X7_essential (v1 : Int32) (M : Mem) : RG C_X7_essential (0, [some (.ref 0), some (.int v1), none, none, none, none, none], [], M, 0) (d_X7_essential v1 M) (fun r => .inr r) := by
  unfold d_X7_essential
  refine RG.st 2 (congrFun (congrFun b_X7_essential_0 v1) M) ?_
  refine RG.callV (fun M1 h1 => RG.st 1 (run_callV (v := none) rfl rfl rfl rfl rfl h1) ?_) (fun E M1 h1 => RG.fin rfl (Rend.run 1 (run_callVx rfl rfl rfl rfl rfl h1 rfl)))
  show RG C_X7_essential (5, [some (.ref 0), some (.int v1), none, none, none, none, none], [], M1, 1) _ _
  refine RG.st 7 (congrFun (congrFun b_X7_essential_1 v1) M1) ?_
  refine RG.bind (fun w2 h2 => RG.st 1 (run_callV (v := some (.int w2)) rfl rfl rfl rfl rfl (bindI h2)) ?_)
  show RG C_X7_essential (19, [some (.ref 0), some (.int v1), some (.long (d_X7_bitsOf v1 M1)), none, none, none, none], [.int w2], M1, 1) _ _
  refine RG.st 2 (congrFun (congrFun (congrFun b_X7_essential_2 v1) M1) w2) ?_
  refine RG.ite (fun h3 => RG.brNF (q := 23) h3 rfl ?_) (fun h3 => RG.brNT (q := 25) h3 rfl ?_)
  · exact RG.fin rfl (Rend.run 2 (congrFun (congrFun b_X7_essential_3 v1) M1))
  · refine RG.st 4 (congrFun (congrFun b_X7_essential_4 v1) M1) ?_
    refine RG.loop (hd := (fun (a1 : Int64 × Int32) => (31, [some (.ref 0), some (.int v1), some (.long (d_X7_bitsOf v1 M1)), none, some (.long a1.1), none, some (.int a1.2)], [], M1, 1))) (ex := (fun (a1 : Int64 × Int32) => (90, [some (.ref 0), some (.int v1), some (.long (d_X7_bitsOf v1 M1)), none, some (.long a1.1), none, some (.int a1.2)], [], M1, 1))) (rt := id) (l_X7_essential_1 v1 M M1) (fun a2 => ?_) (fun r v h => by cases h; rfl)
    show RG C_X7_essential (90, [some (.ref 0), some (.int v1), some (.long (d_X7_bitsOf v1 M1)), none, some (.long a2.1), none, some (.int a2.2)], [], M1, 1) _ _
    exact RG.fin rfl (Rend.run 2 (congrFun (congrFun (congrFun b_X7_essential_12 v1) M1) a2))
def fn_X7_essential : Fn := fun av M => match av with
  | [.ref r0, .int v1] => bif Nat.beq r0 0 then (d_X7_essential v1 M) else (none)
  | _ => none
theorem cfg_X7_essential : CfgOK RX7 cX7_essential (C_X7_essential) 7 := ⟨tk_X7_essential, csF_nd, flk_X7, (List.forall_mem_cons.mpr ⟨Or.inr ⟨yX7_needSet, cX7_needSet, 2, none, none, 6, ok_X7_needSet, by decide, by decide, w_code_Sumsetry_needSet__I_V, w_initialized_Sumsetry, ⟨by decide, by decide⟩, Or.inr (Or.inr ⟨rfl, rfl, show (parseMethodDescriptor yX7_needSet.desc).map (fun d => d.parameters.length + 1) = some 2 from by decide +kernel, w_methodLink_Sumsetry_98, w_instanceMethod_Sumsetry_needSet__I_V, w_selects_Sumsetry_needSet__I_V, ⟨_, rfl, rfl⟩⟩)⟩,
    List.forall_mem_cons.mpr ⟨Or.inr ⟨yX7_bitsOf, cX7_bitsOf, 2, (some .long), none, 1, ok_X7_bitsOf, by decide, by decide, w_code_Sumsetry_bitsOf__I_J, w_initialized_Sumsetry, ⟨by decide, by decide⟩, Or.inr (Or.inr ⟨rfl, rfl, show (parseMethodDescriptor yX7_bitsOf.desc).map (fun d => d.parameters.length + 1) = some 2 from by decide +kernel, w_methodLink_Sumsetry_103, w_instanceMethod_Sumsetry_bitsOf__I_J, w_selects_Sumsetry_bitsOf__I_J, ⟨_, rfl, rfl⟩⟩)⟩,
    List.forall_mem_cons.mpr ⟨Or.inr ⟨yX7_bit, cX7_bit, 1, (some .long), none, 1, ok_X7_bit, by decide, by decide, w_code_Sumsetry_bit__I_J, w_initialized_Sumsetry, ⟨by decide, by decide⟩, Or.inl ⟨rfl, show (parseMethodDescriptor yX7_bit.desc).map (fun d => d.parameters.length) = some 1 from by decide +kernel, w_methodLink_Sumsetry_127, w_static_Sumsetry_bit__I_J⟩⟩,
    List.forall_mem_cons.mpr ⟨Or.inr ⟨yX7_has, cX7_has, 3, (some .boolean), none, 1, ok_X7_has, by decide, by decide, w_code_Sumsetry_has__JI_Z, w_initialized_Sumsetry, ⟨by decide, by decide⟩, Or.inl ⟨rfl, show (parseMethodDescriptor yX7_has.desc).map (fun d => d.parameters.length) = some 2 from by decide +kernel, w_methodLink_Sumsetry_150, w_static_Sumsetry_has__JI_Z⟩⟩,
    List.forall_mem_cons.mpr ⟨Or.inr ⟨yX1_orderOf, cX1_orderOf, 6, (some .int), none, 5, ok_X1_orderOf, by decide, by decide, w_code_Sumsetry_Group_orderOf__J_I, w_initialized_Sumsetry_Group, ⟨by decide, by decide⟩, Or.inr (Or.inr ⟨rfl, rfl, show (parseMethodDescriptor yX1_orderOf.desc).map (fun d => d.parameters.length + 1) = some 2 from by decide +kernel, w_methodLink_Sumsetry_156, w_instanceMethod_Sumsetry_Group_orderOf__J_I, w_selects_Sumsetry_Group_orderOf__J_I, ⟨_, rfl, rfl⟩⟩)⟩, fun _ h => absurd h List.not_mem_nil⟩⟩⟩⟩⟩), ink_X7, lgk_X7, fun e h => absurd h List.not_mem_nil, (fun h hh => absurd hh List.not_mem_nil)⟩
theorem ok_X7_essential : OkM csF yX7_essential (Cond.code yX7_essential cX7_essential 7 (some .long)) 7 1 fn_X7_essential :=
  OkM_of (own := RX7) (C := C_X7_essential) (by decide +kernel) rfl (cfg_X7_essential) rfl rfl rfl rfl (by
    intro av M o M' h
    unfold fn_X7_essential at h
    split at h
    · rename_i r0 v1
      rcases bif_cs h with ⟨hb, h⟩ | ⟨-, h⟩
      · skip
        have hr0 := hb
        obtain rfl := Nat.eq_of_beq_eq_true hr0
        exact ⟨rfl, Nat.le_of_ble_eq_true rfl, (r_X7_essential v1 M) (o, M') h⟩
      · cases h
    · cases h)
