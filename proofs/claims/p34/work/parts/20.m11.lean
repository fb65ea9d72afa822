/-! methods: X7_needMappable, X7_image, X7_maps, X7_needRule, X7_keeps, X7_needSearchable, X7_greatest, X7_greatestAnew, X7_wins, X7_put -/
def t_X7_needMappable : List (Nat × Instr × Nat) := [(0, .iconst 2, 1), (1, .iload_n 3, 1), (2, .iconst 3, 1), (3, .invokestatic 52, 3), (6, .ifCond .ne 14, 3), (9, .new 56, 3), (12, .dup, 1), (13, .ldc_w 265, 3), (16, .invokespecial 60, 3), (19, .athrow, 1), (20, .aload_n 0, 1), (21, .iload_n 1, 1), (22, .invokevirtual 103, 3), (25, .invokestatic 142, 3), (28, .bipush 6, 2), (30, .if_icmp .gt 16, 3), (33, .aload_n 0, 1), (34, .iload_n 2, 1), (35, .invokevirtual 103, 3), (38, .invokestatic 142, 3), (41, .bipush 6, 2), (43, .if_icmp .le 14, 3), (46, .new 198, 3), (49, .dup, 1), (50, .ldc_w 267, 3), (53, .invokespecial 202, 3), (56, .athrow, 1), (57, .return_, 1)]
theorem tk_X7_needMappable : ∀ x ∈ t_X7_needMappable, decode cX7_needMappable x.1 = .ok x.2 := by decide +kernel
def C_X7_needMappable : Cfg := (t_X7_needMappable, csF, fl_X7, [(52, 0, 5, 3, 0, fn_X7_isFrom), (103, 2, 5, 2, 0, fn_X7_bitsOf), (142, 0, 0, 1, 0, fn_J13_bitCount_95d88)], in_X7, lg_X7, [(9, "java/lang/IllegalArgumentException", 56, 265, 60, "order out of range"), (46, "java/lang/IllegalStateException", 198, 267, 202, "a set is too great")], [], none, none, 1)
set_option maxRecDepth 100000 in
theorem b_X7_needMappable_0 : (fun (v1 : Int32) (v2 : Int32) (v3 : Int32) (M : Mem) => run C_X7_needMappable 5 (0, [some (.ref 0), some (.int v1), some (.int v2), some (.int v3)], [], M, 0)) = (fun (v1 : Int32) (v2 : Int32) (v3 : Int32) (M : Mem) => some (.inl ((br (!decide ((d_X7_isFrom (2 : Int32) v3 (3 : Int32)) = 0)) 6 3 (14)), [some (.ref 0), some (.int v1), some (.int v2), some (.int v3)], [], M, 0))) := by rfl
set_option maxRecDepth 100000 in
theorem b_X7_needMappable_1 : (fun (v1 : Int32) (v2 : Int32) (v3 : Int32) (M : Mem) => run C_X7_needMappable 1 (9, [some (.ref 0), some (.int v1), some (.int v2), some (.int v3)], [], M, 0)) = (fun (v1 : Int32) (v2 : Int32) (v3 : Int32) (M : Mem) => some (.inr (.inr "java/lang/IllegalArgumentException", M, 1))) := by rfl
set_option maxRecDepth 100000 in
theorem b_X7_needMappable_2 : (fun (v1 : Int32) (v2 : Int32) (v3 : Int32) (M : Mem) => run C_X7_needMappable 6 (20, [some (.ref 0), some (.int v1), some (.int v2), some (.int v3)], [], M, 0)) = (fun (v1 : Int32) (v2 : Int32) (v3 : Int32) (M : Mem) => some (.inl ((br (!decide ((d_J13_bitCount_95d88 (d_X7_bitsOf v1 M)) ≤ (6 : Int32))) 30 3 (16)), [some (.ref 0), some (.int v1), some (.int v2), some (.int v3)], [], M, 0))) := by rfl
set_option maxRecDepth 100000 in
theorem b_X7_needMappable_3 : (fun (v1 : Int32) (v2 : Int32) (v3 : Int32) (M : Mem) => run C_X7_needMappable 6 (33, [some (.ref 0), some (.int v1), some (.int v2), some (.int v3)], [], M, 0)) = (fun (v1 : Int32) (v2 : Int32) (v3 : Int32) (M : Mem) => some (.inl ((br (decide ((d_J13_bitCount_95d88 (d_X7_bitsOf v2 M)) ≤ (6 : Int32))) 43 3 (14)), [some (.ref 0), some (.int v1), some (.int v2), some (.int v3)], [], M, 0))) := by rfl
set_option maxRecDepth 100000 in
theorem b_X7_needMappable_4 : (fun (v1 : Int32) (v2 : Int32) (v3 : Int32) (M : Mem) => run C_X7_needMappable 1 (57, [some (.ref 0), some (.int v1), some (.int v2), some (.int v3)], [], M, 0)) = (fun (v1 : Int32) (v2 : Int32) (v3 : Int32) (M : Mem) => some (.inr (.inl none, M, 0))) := by rfl
set_option maxRecDepth 100000 in
theorem b_X7_needMappable_5 : (fun (v1 : Int32) (v2 : Int32) (v3 : Int32) (M : Mem) => run C_X7_needMappable 1 (46, [some (.ref 0), some (.int v1), some (.int v2), some (.int v3)], [], M, 0)) = (fun (v1 : Int32) (v2 : Int32) (v3 : Int32) (M : Mem) => some (.inr (.inr "java/lang/IllegalStateException", M, 1))) := by rfl
set_option maxRecDepth 100000 in
theorem b_X7_needMappable_6 : (fun (v1 : Int32) (v2 : Int32) (v3 : Int32) (M : Mem) => run C_X7_needMappable 1 (46, [some (.ref 0), some (.int v1), some (.int v2), some (.int v3)], [], M, 0)) = (fun (v1 : Int32) (v2 : Int32) (v3 : Int32) (M : Mem) => some (.inr (.inr "java/lang/IllegalStateException", M, 1))) := by rfl
def d_X7_needMappable (v1 : Int32) (v2 : Int32) (v3 : Int32) (M : Mem) : Option (Res × Mem) := (if (d_X7_isFrom (2 : Int32) v3 (3 : Int32)) = 0 then some (.inr "java/lang/IllegalArgumentException", M) else (if (d_J13_bitCount_95d88 (d_X7_bitsOf v1 M)) ≤ (6 : Int32) then (if (d_J13_bitCount_95d88 (d_X7_bitsOf v2 M)) ≤ (6 : Int32) then some (.inl none, M) else some (.inr "java/lang/IllegalStateException", M)) else some (.inr "java/lang/IllegalStateException", M)))
set_option maxHeartbeats 2000000 in
theorem r_X7_needMappable (v1 : Int32) (v2 : Int32) (v3 : Int32) (M : Mem) : RG C_X7_needMappable (0, [some (.ref 0), some (.int v1), some (.int v2), some (.int v3)], [], M, 0) (d_X7_needMappable v1 v2 v3 M) (fun r => .inr r) := by
  unfold d_X7_needMappable
  refine RG.st 5 (congrFun (congrFun (congrFun (congrFun b_X7_needMappable_0 v1) v2) v3) M) ?_
  refine RG.ite (fun h1 => RG.brNF (q := 9) h1 rfl ?_) (fun h1 => RG.brNT (q := 20) h1 rfl ?_)
  · exact RG.fin rfl (Rend.run 1 (congrFun (congrFun (congrFun (congrFun b_X7_needMappable_1 v1) v2) v3) M))
  · refine RG.st 6 (congrFun (congrFun (congrFun (congrFun b_X7_needMappable_2 v1) v2) v3) M) ?_
    refine RG.ite (fun h2 => RG.brNF (q := 33) h2 rfl ?_) (fun h2 => RG.brNT (q := 46) h2 rfl ?_)
    · refine RG.st 6 (congrFun (congrFun (congrFun (congrFun b_X7_needMappable_3 v1) v2) v3) M) ?_
      refine RG.ite (fun h3 => RG.brT (q := 57) h3 rfl ?_) (fun h3 => RG.brF (q := 46) h3 rfl ?_)
      · exact RG.fin rfl (Rend.run 1 (congrFun (congrFun (congrFun (congrFun b_X7_needMappable_4 v1) v2) v3) M))
      · exact RG.fin rfl (Rend.run 1 (congrFun (congrFun (congrFun (congrFun b_X7_needMappable_5 v1) v2) v3) M))
    · exact RG.fin rfl (Rend.run 1 (congrFun (congrFun (congrFun (congrFun b_X7_needMappable_6 v1) v2) v3) M))
def fn_X7_needMappable : Fn := fun av M => match av with
  | [.ref r0, .int v1, .int v2, .int v3] => bif Nat.beq r0 0 then (d_X7_needMappable v1 v2 v3 M) else (none)
  | _ => none
theorem cfg_X7_needMappable : CfgOK RX7 cX7_needMappable (C_X7_needMappable) 6 := ⟨tk_X7_needMappable, csF_nd, flk_X7, (List.forall_mem_cons.mpr ⟨Or.inr ⟨yX7_isFrom, cX7_isFrom, 3, (some .boolean), none, 1, ok_X7_isFrom, by decide, by decide, w_code_Sumsetry_isFrom__III_Z, w_initialized_Sumsetry, ⟨by decide, by decide⟩, Or.inl ⟨rfl, show (parseMethodDescriptor yX7_isFrom.desc).map (fun d => d.parameters.length) = some 3 from by decide +kernel, w_methodLink_Sumsetry_52, w_static_Sumsetry_isFrom__III_Z⟩⟩,
    List.forall_mem_cons.mpr ⟨Or.inr ⟨yX7_bitsOf, cX7_bitsOf, 2, (some .long), none, 1, ok_X7_bitsOf, by decide, by decide, w_code_Sumsetry_bitsOf__I_J, w_initialized_Sumsetry, ⟨by decide, by decide⟩, Or.inr (Or.inr ⟨rfl, rfl, show (parseMethodDescriptor yX7_bitsOf.desc).map (fun d => d.parameters.length + 1) = some 2 from by decide +kernel, w_methodLink_Sumsetry_103, w_instanceMethod_Sumsetry_bitsOf__I_J, w_selects_Sumsetry_bitsOf__I_J, ⟨_, rfl, rfl⟩⟩)⟩,
    List.forall_mem_cons.mpr ⟨Or.inr ⟨yJ13_bitCount_95d88, cJ13_bitCount_95d88, 2, (some .int), none, 1, ok_J13_bitCount_95d88, by decide, by decide, w_code_java_lang_Long_bitCount__J_I, w_initialized_java_lang_Long, ⟨by decide, by decide⟩, Or.inl ⟨rfl, show (parseMethodDescriptor yJ13_bitCount_95d88.desc).map (fun d => d.parameters.length) = some 1 from by decide +kernel, w_methodLink_Sumsetry_142, w_static_java_lang_Long_bitCount__J_I⟩⟩, fun _ h => absurd h List.not_mem_nil⟩⟩⟩), ink_X7, lgk_X7, by decide +kernel, (fun h hh => absurd hh List.not_mem_nil)⟩
theorem ok_X7_needMappable : OkM csF yX7_needMappable (Cond.code yX7_needMappable cX7_needMappable 4 none) 6 1 fn_X7_needMappable :=
  OkM_of (own := RX7) (C := C_X7_needMappable) (by decide +kernel) rfl (cfg_X7_needMappable) rfl rfl rfl rfl (by
    intro av M o M' h
    unfold fn_X7_needMappable at h
    split at h
    · rename_i r0 v1 v2 v3
      rcases bif_cs h with ⟨hb, h⟩ | ⟨-, h⟩
      · skip
        have hr0 := hb
        obtain rfl := Nat.eq_of_beq_eq_true hr0
        exact ⟨rfl, Nat.le_of_ble_eq_true rfl, (r_X7_needMappable v1 v2 v3 M) (o, M') h⟩
      · cases h
    · cases h)
def t_X7_image : List (Nat × Instr × Nat) := [(0, .aload_n 0, 1), (1, .iload_n 1, 1), (2, .invokevirtual 98, 3), (5, .aload_n 0, 1), (6, .iload_n 2, 1), (7, .invokevirtual 98, 3), (10, .aload_n 0, 1), (11, .iload 4, 2), (13, .invokevirtual 76, 3), (16, .aload_n 0, 1), (17, .iload_n 1, 1), (18, .iload_n 2, 1), (19, .iload_n 3, 1), (20, .invokevirtual 161, 3), (23, .aload_n 0, 1), (24, .getfield 27, 3), (27, .aload_n 0, 1), (28, .getfield 10, 3), (31, .aload_n 0, 1), (32, .iload_n 1, 1), (33, .invokevirtual 103, 3), (36, .aload_n 0, 1), (37, .iload_n 2, 1), (38, .invokevirtual 103, 3), (41, .iload_n 3, 1), (42, .invokevirtual 165, 3), (45, .aload_n 0, 1), (46, .getfield 27, 3), (49, .iload 4, 2), (51, .invokevirtual 169, 3), (54, .ireturn, 1)]
theorem tk_X7_image : ∀ x ∈ t_X7_image, decode cX7_image x.1 = .ok x.2 := by decide +kernel
def C_X7_image : Cfg := (t_X7_image, csF, fl_X7, [(76, 2, 5, 2, 1, fn_X7_needElement), (98, 2, 5, 2, 1, fn_X7_needSet), (103, 2, 5, 2, 0, fn_X7_bitsOf), (161, 2, 5, 4, 1, fn_X7_needMappable), (165, 2, 2, 5, 0, fn_X2_findAll), (169, 2, 2, 2, 0, fn_X2_firstImage)], in_X7, lg_X7, [], [], none, (some .int), 4)
set_option maxRecDepth 100000 in
theorem b_X7_image_0 : (fun (v1 : Int32) (v2 : Int32) (v3 : Int32) (v4 : Int32) (M : Mem) => run C_X7_image 2 (0, [some (.ref 0), some (.int v1), some (.int v2), some (.int v3), some (.int v4)], [], M, 0)) = (fun (v1 : Int32) (v2 : Int32) (v3 : Int32) (v4 : Int32) (M : Mem) => some (.inl (2, [some (.ref 0), some (.int v1), some (.int v2), some (.int v3), some (.int v4)], [.int v1, .ref 0], M, 0))) := by rfl
set_option maxRecDepth 100000 in
theorem b_X7_image_1 : (fun (v1 : Int32) (v2 : Int32) (v3 : Int32) (v4 : Int32) (M1 : Mem) => run C_X7_image 2 (5, [some (.ref 0), some (.int v1), some (.int v2), some (.int v3), some (.int v4)], [], M1, 1)) = (fun (v1 : Int32) (v2 : Int32) (v3 : Int32) (v4 : Int32) (M1 : Mem) => some (.inl (7, [some (.ref 0), some (.int v1), some (.int v2), some (.int v3), some (.int v4)], [.int v2, .ref 0], M1, 1))) := by rfl
set_option maxRecDepth 100000 in
theorem b_X7_image_2 : (fun (v1 : Int32) (v2 : Int32) (v3 : Int32) (v4 : Int32) (M2 : Mem) => run C_X7_image 2 (10, [some (.ref 0), some (.int v1), some (.int v2), some (.int v3), some (.int v4)], [], M2, 2)) = (fun (v1 : Int32) (v2 : Int32) (v3 : Int32) (v4 : Int32) (M2 : Mem) => some (.inl (13, [some (.ref 0), some (.int v1), some (.int v2), some (.int v3), some (.int v4)], [.int v4, .ref 0], M2, 2))) := by rfl
set_option maxRecDepth 100000 in
theorem b_X7_image_3 : (fun (v1 : Int32) (v2 : Int32) (v3 : Int32) (v4 : Int32) (M3 : Mem) => run C_X7_image 4 (16, [some (.ref 0), some (.int v1), some (.int v2), some (.int v3), some (.int v4)], [], M3, 3)) = (fun (v1 : Int32) (v2 : Int32) (v3 : Int32) (v4 : Int32) (M3 : Mem) => some (.inl (20, [some (.ref 0), some (.int v1), some (.int v2), some (.int v3), some (.int v4)], [.int v3, .int v2, .int v1, .ref 0], M3, 3))) := by rfl
set_option maxRecDepth 100000 in
theorem b_X7_image_4 : (fun (v1 : Int32) (v2 : Int32) (v3 : Int32) (v4 : Int32) (M4 : Mem) => run C_X7_image 11 (23, [some (.ref 0), some (.int v1), some (.int v2), some (.int v3), some (.int v4)], [], M4, 4)) = (fun (v1 : Int32) (v2 : Int32) (v3 : Int32) (v4 : Int32) (M4 : Mem) => some (.inl (42, [some (.ref 0), some (.int v1), some (.int v2), some (.int v3), some (.int v4)], [.int v3, .long (d_X7_bitsOf v2 M4), .long (d_X7_bitsOf v1 M4), .ref 2, .ref 4], M4, 4))) := by rfl
set_option maxRecDepth 100000 in
theorem b_X7_image_5 : (fun (v1 : Int32) (v2 : Int32) (v3 : Int32) (v4 : Int32) (M5 : Mem) => run C_X7_image 3 (45, [some (.ref 0), some (.int v1), some (.int v2), some (.int v3), some (.int v4)], [], M5, 4)) = (fun (v1 : Int32) (v2 : Int32) (v3 : Int32) (v4 : Int32) (M5 : Mem) => some (.inl (51, [some (.ref 0), some (.int v1), some (.int v2), some (.int v3), some (.int v4)], [.int v4, .ref 4], M5, 4))) := by rfl
set_option maxRecDepth 100000 in
theorem b_X7_image_6 : (fun (v1 : Int32) (v2 : Int32) (v3 : Int32) (v4 : Int32) (M5 : Mem) (w6 : Int32) => run C_X7_image 1 (54, [some (.ref 0), some (.int v1), some (.int v2), some (.int v3), some (.int v4)], [.int w6], M5, 4)) = (fun (v1 : Int32) (v2 : Int32) (v3 : Int32) (v4 : Int32) (M5 : Mem) (w6 : Int32) => some (.inr (.inl (some (.int w6)), M5, 4))) := by rfl
def d_X7_image (v1 : Int32) (v2 : Int32) (v3 : Int32) (v4 : Int32) (M : Mem) : Option (Res × Mem) := (onV (d_X7_needSet v1 M) (fun M1 => (onV (d_X7_needSet v2 M1) (fun M2 => (onV (d_X7_needElement v4 M2) (fun M3 => (onV (d_X7_needMappable v1 v2 v3 M3) (fun M4 => (onV (d_X2_findAll (d_X7_bitsOf v1 M4) (d_X7_bitsOf v2 M4) v3 M4) (fun M5 => ((d_X2_firstImage v4 M5).bind fun w6 => some (.inl (some (.int w6)), M5))) (fun r => some r))) (fun r => some r))) (fun r => some r))) (fun r => some r))) (fun r => some r))
set_option maxHeartbeats 2000000 in
theorem r_X7_image (v1 : Int32) (v2 : Int32) (v3 : Int32) (v4 : Int32) (M : Mem) : RG C_X7_image (0, [some (.ref 0), some (.int v1), some (.int v2), some (.int v3), some (.int v4)], [], M, 0) (d_X7_image v1 v2 v3 v4 M) (fun r => .inr r) := by
  unfold d_X7_image
  refine RG.st 2 (congrFun (congrFun (congrFun (congrFun (congrFun b_X7_image_0 v1) v2) v3) v4) M) ?_
  refine RG.callV (fun M1 h1 => RG.st 1 (run_callV (v := none) rfl rfl rfl rfl rfl h1) ?_) (fun E M1 h1 => RG.fin rfl (Rend.run 1 (run_callVx rfl rfl rfl rfl rfl h1 rfl)))
  show RG C_X7_image (5, [some (.ref 0), some (.int v1), some (.int v2), some (.int v3), some (.int v4)], [], M1, 1) _ _
  refine RG.st 2 (congrFun (congrFun (congrFun (congrFun (congrFun b_X7_image_1 v1) v2) v3) v4) M1) ?_
  refine RG.callV (fun M2 h2 => RG.st 1 (run_callV (v := none) rfl rfl rfl rfl rfl h2) ?_) (fun E M2 h2 => RG.fin rfl (Rend.run 1 (run_callVx rfl rfl rfl rfl rfl h2 rfl)))
  show RG C_X7_image (10, [some (.ref 0), some (.int v1), some (.int v2), some (.int v3), some (.int v4)], [], M2, 2) _ _
  refine RG.st 2 (congrFun (congrFun (congrFun (congrFun (congrFun b_X7_image_2 v1) v2) v3) v4) M2) ?_
  refine RG.callV (fun M3 h3 => RG.st 1 (run_callV (v := none) rfl rfl rfl rfl rfl h3) ?_) (fun E M3 h3 => RG.fin rfl (Rend.run 1 (run_callVx rfl rfl rfl rfl rfl h3 rfl)))
  show RG C_X7_image (16, [some (.ref 0), some (.int v1), some (.int v2), some (.int v3), some (.int v4)], [], M3, 3) _ _
  refine RG.st 4 (congrFun (congrFun (congrFun (congrFun (congrFun b_X7_image_3 v1) v2) v3) v4) M3) ?_
  refine RG.callV (fun M4 h4 => RG.st 1 (run_callV (v := none) rfl rfl rfl rfl rfl h4) ?_) (fun E M4 h4 => RG.fin rfl (Rend.run 1 (run_callVx rfl rfl rfl rfl rfl h4 rfl)))
  show RG C_X7_image (23, [some (.ref 0), some (.int v1), some (.int v2), some (.int v3), some (.int v4)], [], M4, 4) _ _
  refine RG.st 11 (congrFun (congrFun (congrFun (congrFun (congrFun b_X7_image_4 v1) v2) v3) v4) M4) ?_
  refine RG.callV (fun M5 h5 => RG.st 1 (run_callV (v := none) rfl rfl rfl rfl rfl h5) ?_) (fun E M5 h5 => RG.fin rfl (Rend.run 1 (run_callVx rfl rfl rfl rfl rfl h5 rfl)))
  show RG C_X7_image (45, [some (.ref 0), some (.int v1), some (.int v2), some (.int v3), some (.int v4)], [], M5, 4) _ _
  refine RG.st 3 (congrFun (congrFun (congrFun (congrFun (congrFun b_X7_image_5 v1) v2) v3) v4) M5) ?_
  refine RG.bind (fun w6 h6 => RG.st 1 (run_callV (v := some (.int w6)) rfl rfl rfl rfl rfl (bindI h6)) ?_)
  show RG C_X7_image (54, [some (.ref 0), some (.int v1), some (.int v2), some (.int v3), some (.int v4)], [.int w6], M5, 4) _ _
  exact RG.fin rfl (Rend.run 1 (congrFun (congrFun (congrFun (congrFun (congrFun (congrFun b_X7_image_6 v1) v2) v3) v4) M5) w6))
def fn_X7_image : Fn := fun av M => match av with
  | [.ref r0, .int v1, .int v2, .int v3, .int v4] => bif Nat.beq r0 0 then (d_X7_image v1 v2 v3 v4 M) else (none)
  | _ => none
theorem cfg_X7_image : CfgOK RX7 cX7_image (C_X7_image) 15 := ⟨tk_X7_image, csF_nd, flk_X7, (List.forall_mem_cons.mpr ⟨Or.inr ⟨yX7_needElement, cX7_needElement, 2, none, none, 6, ok_X7_needElement, by decide, by decide, w_code_Sumsetry_needElement__I_V, w_initialized_Sumsetry, ⟨by decide, by decide⟩, Or.inr (Or.inr ⟨rfl, rfl, show (parseMethodDescriptor yX7_needElement.desc).map (fun d => d.parameters.length + 1) = some 2 from by decide +kernel, w_methodLink_Sumsetry_76, w_instanceMethod_Sumsetry_needElement__I_V, w_selects_Sumsetry_needElement__I_V, ⟨_, rfl, rfl⟩⟩)⟩,
    List.forall_mem_cons.mpr ⟨Or.inr ⟨yX7_needSet, cX7_needSet, 2, none, none, 6, ok_X7_needSet, by decide, by decide, w_code_Sumsetry_needSet__I_V, w_initialized_Sumsetry, ⟨by decide, by decide⟩, Or.inr (Or.inr ⟨rfl, rfl, show (parseMethodDescriptor yX7_needSet.desc).map (fun d => d.parameters.length + 1) = some 2 from by decide +kernel, w_methodLink_Sumsetry_98, w_instanceMethod_Sumsetry_needSet__I_V, w_selects_Sumsetry_needSet__I_V, ⟨_, rfl, rfl⟩⟩)⟩,
    List.forall_mem_cons.mpr ⟨Or.inr ⟨yX7_bitsOf, cX7_bitsOf, 2, (some .long), none, 1, ok_X7_bitsOf, by decide, by decide, w_code_Sumsetry_bitsOf__I_J, w_initialized_Sumsetry, ⟨by decide, by decide⟩, Or.inr (Or.inr ⟨rfl, rfl, show (parseMethodDescriptor yX7_bitsOf.desc).map (fun d => d.parameters.length + 1) = some 2 from by decide +kernel, w_methodLink_Sumsetry_103, w_instanceMethod_Sumsetry_bitsOf__I_J, w_selects_Sumsetry_bitsOf__I_J, ⟨_, rfl, rfl⟩⟩)⟩,
    List.forall_mem_cons.mpr ⟨Or.inr ⟨yX7_needMappable, cX7_needMappable, 4, none, none, 6, ok_X7_needMappable, by decide, by decide, w_code_Sumsetry_needMappable__III_V, w_initialized_Sumsetry, ⟨by decide, by decide⟩, Or.inr (Or.inr ⟨rfl, rfl, show (parseMethodDescriptor yX7_needMappable.desc).map (fun d => d.parameters.length + 1) = some 4 from by decide +kernel, w_methodLink_Sumsetry_161, w_instanceMethod_Sumsetry_needMappable__III_V, w_selects_Sumsetry_needMappable__III_V, ⟨_, rfl, rfl⟩⟩)⟩,
    List.forall_mem_cons.mpr ⟨Or.inr ⟨yX2_findAll, cX2_findAll, 7, none, none, 14, ok_X2_findAll, by decide, by decide, w_code_Sumsetry_Maps_findAll__LSumsetry_Group_JJI_V, w_initialized_Sumsetry_Maps, ⟨by decide, by decide⟩, Or.inr (Or.inr ⟨rfl, rfl, show (parseMethodDescriptor yX2_findAll.desc).map (fun d => d.parameters.length + 1) = some 5 from by decide +kernel, w_methodLink_Sumsetry_165, w_instanceMethod_Sumsetry_Maps_findAll__LSumsetry_Group_JJI_V, w_selects_Sumsetry_Maps_findAll__LSumsetry_Group_JJI_V, ⟨_, rfl, rfl⟩⟩)⟩,
    List.forall_mem_cons.mpr ⟨Or.inr ⟨yX2_firstImage, cX2_firstImage, 3, (some .int), none, 2, ok_X2_firstImage, by decide, by decide, w_code_Sumsetry_Maps_firstImage__I_I, w_initialized_Sumsetry_Maps, ⟨by decide, by decide⟩, Or.inr (Or.inr ⟨rfl, rfl, show (parseMethodDescriptor yX2_firstImage.desc).map (fun d => d.parameters.length + 1) = some 2 from by decide +kernel, w_methodLink_Sumsetry_169, w_instanceMethod_Sumsetry_Maps_firstImage__I_I, w_selects_Sumsetry_Maps_firstImage__I_I, ⟨_, rfl, rfl⟩⟩)⟩, fun _ h => absurd h List.not_mem_nil⟩⟩⟩⟩⟩⟩), ink_X7, lgk_X7, fun e h => absurd h List.not_mem_nil, (fun h hh => absurd hh List.not_mem_nil)⟩
theorem ok_X7_image : OkM csF yX7_image (Cond.code yX7_image cX7_image 5 (some .int)) 15 4 fn_X7_image :=
  OkM_of (own := RX7) (C := C_X7_image) (by decide +kernel) rfl (cfg_X7_image) rfl rfl rfl rfl (by
    intro av M o M' h
    unfold fn_X7_image at h
    split at h
    · rename_i r0 v1 v2 v3 v4
      rcases bif_cs h with ⟨hb, h⟩ | ⟨-, h⟩
      · skip
        have hr0 := hb
        obtain rfl := Nat.eq_of_beq_eq_true hr0
        exact ⟨rfl, Nat.le_of_ble_eq_true rfl, (r_X7_image v1 v2 v3 v4 M) (o, M') h⟩
      · cases h
    · cases h)
def t_X7_maps : List (Nat × Instr × Nat) := [(0, .aload_n 0, 1), (1, .iload_n 1, 1), (2, .invokevirtual 98, 3), (5, .aload_n 0, 1), (6, .iload_n 2, 1), (7, .invokevirtual 98, 3), (10, .aload_n 0, 1), (11, .iload_n 1, 1), (12, .iload_n 2, 1), (13, .iload_n 3, 1), (14, .invokevirtual 161, 3), (17, .aload_n 0, 1), (18, .getfield 27, 3), (21, .aload_n 0, 1), (22, .getfield 10, 3), (25, .aload_n 0, 1), (26, .iload_n 1, 1), (27, .invokevirtual 103, 3), (30, .aload_n 0, 1), (31, .iload_n 2, 1), (32, .invokevirtual 103, 3), (35, .iload_n 3, 1), (36, .invokevirtual 165, 3), (39, .aload_n 0, 1), (40, .getfield 27, 3), (43, .getfield 172, 3), (46, .ireturn, 1)]
theorem tk_X7_maps : ∀ x ∈ t_X7_maps, decode cX7_maps x.1 = .ok x.2 := by decide +kernel
def C_X7_maps : Cfg := (t_X7_maps, csF, fl_X7, [(98, 2, 5, 2, 1, fn_X7_needSet), (103, 2, 5, 2, 0, fn_X7_bitsOf), (161, 2, 5, 4, 1, fn_X7_needMappable), (165, 2, 2, 5, 0, fn_X2_findAll)], in_X7, lg_X7, [], [], none, (some .int), 3)
set_option maxRecDepth 100000 in
theorem b_X7_maps_0 : (fun (v1 : Int32) (v2 : Int32) (v3 : Int32) (M : Mem) => run C_X7_maps 2 (0, [some (.ref 0), some (.int v1), some (.int v2), some (.int v3)], [], M, 0)) = (fun (v1 : Int32) (v2 : Int32) (v3 : Int32) (M : Mem) => some (.inl (2, [some (.ref 0), some (.int v1), some (.int v2), some (.int v3)], [.int v1, .ref 0], M, 0))) := by rfl
set_option maxRecDepth 100000 in
theorem b_X7_maps_1 : (fun (v1 : Int32) (v2 : Int32) (v3 : Int32) (M1 : Mem) => run C_X7_maps 2 (5, [some (.ref 0), some (.int v1), some (.int v2), some (.int v3)], [], M1, 1)) = (fun (v1 : Int32) (v2 : Int32) (v3 : Int32) (M1 : Mem) => some (.inl (7, [some (.ref 0), some (.int v1), some (.int v2), some (.int v3)], [.int v2, .ref 0], M1, 1))) := by rfl
set_option maxRecDepth 100000 in
theorem b_X7_maps_2 : (fun (v1 : Int32) (v2 : Int32) (v3 : Int32) (M2 : Mem) => run C_X7_maps 4 (10, [some (.ref 0), some (.int v1), some (.int v2), some (.int v3)], [], M2, 2)) = (fun (v1 : Int32) (v2 : Int32) (v3 : Int32) (M2 : Mem) => some (.inl (14, [some (.ref 0), some (.int v1), some (.int v2), some (.int v3)], [.int v3, .int v2, .int v1, .ref 0], M2, 2))) := by rfl
set_option maxRecDepth 100000 in
theorem b_X7_maps_3 : (fun (v1 : Int32) (v2 : Int32) (v3 : Int32) (M3 : Mem) => run C_X7_maps 11 (17, [some (.ref 0), some (.int v1), some (.int v2), some (.int v3)], [], M3, 3)) = (fun (v1 : Int32) (v2 : Int32) (v3 : Int32) (M3 : Mem) => some (.inl (36, [some (.ref 0), some (.int v1), some (.int v2), some (.int v3)], [.int v3, .long (d_X7_bitsOf v2 M3), .long (d_X7_bitsOf v1 M3), .ref 2, .ref 4], M3, 3))) := by rfl
set_option maxRecDepth 100000 in
theorem b_X7_maps_4 : (fun (v1 : Int32) (v2 : Int32) (v3 : Int32) (M4 : Mem) => run C_X7_maps 4 (39, [some (.ref 0), some (.int v1), some (.int v2), some (.int v3)], [], M4, 3)) = (fun (v1 : Int32) (v2 : Int32) (v3 : Int32) (M4 : Mem) => some (.inr (.inl (some (.int (M4.1 4 9))), M4, 3))) := by rfl
def d_X7_maps (v1 : Int32) (v2 : Int32) (v3 : Int32) (M : Mem) : Option (Res × Mem) := (onV (d_X7_needSet v1 M) (fun M1 => (onV (d_X7_needSet v2 M1) (fun M2 => (onV (d_X7_needMappable v1 v2 v3 M2) (fun M3 => (onV (d_X2_findAll (d_X7_bitsOf v1 M3) (d_X7_bitsOf v2 M3) v3 M3) (fun M4 => some (.inl (some (.int (M4.1 4 9))), M4)) (fun r => some r))) (fun r => some r))) (fun r => some r))) (fun r => some r))
set_option maxHeartbeats 2000000 in
theorem r_X7_maps (v1 : Int32) (v2 : Int32) (v3 : Int32) (M : Mem) : RG C_X7_maps (0, [some (.ref 0), some (.int v1), some (.int v2), some (.int v3)], [], M, 0) (d_X7_maps v1 v2 v3 M) (fun r => .inr r) := by
  unfold d_X7_maps
  refine RG.st 2 (congrFun (congrFun (congrFun (congrFun b_X7_maps_0 v1) v2) v3) M) ?_
  refine RG.callV (fun M1 h1 => RG.st 1 (run_callV (v := none) rfl rfl rfl rfl rfl h1) ?_) (fun E M1 h1 => RG.fin rfl (Rend.run 1 (run_callVx rfl rfl rfl rfl rfl h1 rfl)))
  show RG C_X7_maps (5, [some (.ref 0), some (.int v1), some (.int v2), some (.int v3)], [], M1, 1) _ _
  refine RG.st 2 (congrFun (congrFun (congrFun (congrFun b_X7_maps_1 v1) v2) v3) M1) ?_
  refine RG.callV (fun M2 h2 => RG.st 1 (run_callV (v := none) rfl rfl rfl rfl rfl h2) ?_) (fun E M2 h2 => RG.fin rfl (Rend.run 1 (run_callVx rfl rfl rfl rfl rfl h2 rfl)))
  show RG C_X7_maps (10, [some (.ref 0), some (.int v1), some (.int v2), some (.int v3)], [], M2, 2) _ _
  refine RG.st 4 (congrFun (congrFun (congrFun (congrFun b_X7_maps_2 v1) v2) v3) M2) ?_
  refine RG.callV (fun M3 h3 => RG.st 1 (run_callV (v := none) rfl rfl rfl rfl rfl h3) ?_) (fun E M3 h3 => RG.fin rfl (Rend.run 1 (run_callVx rfl rfl rfl rfl rfl h3 rfl)))
  show RG C_X7_maps (17, [some (.ref 0), some (.int v1), some (.int v2), some (.int v3)], [], M3, 3) _ _
  refine RG.st 11 (congrFun (congrFun (congrFun (congrFun b_X7_maps_3 v1) v2) v3) M3) ?_
  refine RG.callV (fun M4 h4 => RG.st 1 (run_callV (v := none) rfl rfl rfl rfl rfl h4) ?_) (fun E M4 h4 => RG.fin rfl (Rend.run 1 (run_callVx rfl rfl rfl rfl rfl h4 rfl)))
  show RG C_X7_maps (39, [some (.ref 0), some (.int v1), some (.int v2), some (.int v3)], [], M4, 3) _ _
  exact RG.fin rfl (Rend.run 4 (congrFun (congrFun (congrFun (congrFun b_X7_maps_4 v1) v2) v3) M4))
def fn_X7_maps : Fn := fun av M => match av with
  | [.ref r0, .int v1, .int v2, .int v3] => bif Nat.beq r0 0 then (d_X7_maps v1 v2 v3 M) else (none)
  | _ => none
theorem cfg_X7_maps : CfgOK RX7 cX7_maps (C_X7_maps) 15 := ⟨tk_X7_maps, csF_nd, flk_X7, (List.forall_mem_cons.mpr ⟨Or.inr ⟨yX7_needSet, cX7_needSet, 2, none, none, 6, ok_X7_needSet, by decide, by decide, w_code_Sumsetry_needSet__I_V, w_initialized_Sumsetry, ⟨by decide, by decide⟩, Or.inr (Or.inr ⟨rfl, rfl, show (parseMethodDescriptor yX7_needSet.desc).map (fun d => d.parameters.length + 1) = some 2 from by decide +kernel, w_methodLink_Sumsetry_98, w_instanceMethod_Sumsetry_needSet__I_V, w_selects_Sumsetry_needSet__I_V, ⟨_, rfl, rfl⟩⟩)⟩,
    List.forall_mem_cons.mpr ⟨Or.inr ⟨yX7_bitsOf, cX7_bitsOf, 2, (some .long), none, 1, ok_X7_bitsOf, by decide, by decide, w_code_Sumsetry_bitsOf__I_J, w_initialized_Sumsetry, ⟨by decide, by decide⟩, Or.inr (Or.inr ⟨rfl, rfl, show (parseMethodDescriptor yX7_bitsOf.desc).map (fun d => d.parameters.length + 1) = some 2 from by decide +kernel, w_methodLink_Sumsetry_103, w_instanceMethod_Sumsetry_bitsOf__I_J, w_selects_Sumsetry_bitsOf__I_J, ⟨_, rfl, rfl⟩⟩)⟩,
    List.forall_mem_cons.mpr ⟨Or.inr ⟨yX7_needMappable, cX7_needMappable, 4, none, none, 6, ok_X7_needMappable, by decide, by decide, w_code_Sumsetry_needMappable__III_V, w_initialized_Sumsetry, ⟨by decide, by decide⟩, Or.inr (Or.inr ⟨rfl, rfl, show (parseMethodDescriptor yX7_needMappable.desc).map (fun d => d.parameters.length + 1) = some 4 from by decide +kernel, w_methodLink_Sumsetry_161, w_instanceMethod_Sumsetry_needMappable__III_V, w_selects_Sumsetry_needMappable__III_V, ⟨_, rfl, rfl⟩⟩)⟩,
    List.forall_mem_cons.mpr ⟨Or.inr ⟨yX2_findAll, cX2_findAll, 7, none, none, 14, ok_X2_findAll, by decide, by decide, w_code_Sumsetry_Maps_findAll__LSumsetry_Group_JJI_V, w_initialized_Sumsetry_Maps, ⟨by decide, by decide⟩, Or.inr (Or.inr ⟨rfl, rfl, show (parseMethodDescriptor yX2_findAll.desc).map (fun d => d.parameters.length + 1) = some 5 from by decide +kernel, w_methodLink_Sumsetry_165, w_instanceMethod_Sumsetry_Maps_findAll__LSumsetry_Group_JJI_V, w_selects_Sumsetry_Maps_findAll__LSumsetry_Group_JJI_V, ⟨_, rfl, rfl⟩⟩)⟩, fun _ h => absurd h List.not_mem_nil⟩⟩⟩⟩), ink_X7, lgk_X7, fun e h => absurd h List.not_mem_nil, (fun h hh => absurd hh List.not_mem_nil)⟩
theorem ok_X7_maps : OkM csF yX7_maps (Cond.code yX7_maps cX7_maps 4 (some .int)) 15 3 fn_X7_maps :=
  OkM_of (own := RX7) (C := C_X7_maps) (by decide +kernel) rfl (cfg_X7_maps) rfl rfl rfl rfl (by
    intro av M o M' h
    unfold fn_X7_maps at h
    split at h
    · rename_i r0 v1 v2 v3
      rcases bif_cs h with ⟨hb, h⟩ | ⟨-, h⟩
      · skip
        have hr0 := hb
        obtain rfl := Nat.eq_of_beq_eq_true hr0
        exact ⟨rfl, Nat.le_of_ble_eq_true rfl, (r_X7_maps v1 v2 v3 M) (o, M') h⟩
      · cases h
    · cases h)
def t_X7_needRule : List (Nat × Instr × Nat) := [(0, .iconst 0, 1), (1, .iload_n 1, 1), (2, .iconst 3, 1), (3, .invokestatic 52, 3), (6, .ifCond .ne 14, 3), (9, .new 256, 3), (12, .dup, 1), (13, .ldc_w 263, 3), (16, .invokespecial 260, 3), (19, .athrow, 1), (20, .return_, 1)]
theorem tk_X7_needRule : ∀ x ∈ t_X7_needRule, decode cX7_needRule x.1 = .ok x.2 := by decide +kernel
def C_X7_needRule : Cfg := (t_X7_needRule, csF, fl_X7, [(52, 0, 5, 3, 0, fn_X7_isFrom)], in_X7, lg_X7, [(9, "java/lang/IndexOutOfBoundsException", 256, 263, 260, "no such rule")], [], none, none, 1)
set_option maxRecDepth 100000 in
theorem b_X7_needRule_0 : (fun (v1 : Int32) (M : Mem) => run C_X7_needRule 5 (0, [some (.ref 0), some (.int v1)], [], M, 0)) = (fun (v1 : Int32) (M : Mem) => some (.inl ((br (!decide ((d_X7_isFrom (0 : Int32) v1 (3 : Int32)) = 0)) 6 3 (14)), [some (.ref 0), some (.int v1)], [], M, 0))) := by rfl
set_option maxRecDepth 100000 in
theorem b_X7_needRule_1 : (fun (v1 : Int32) (M : Mem) => run C_X7_needRule 1 (9, [some (.ref 0), some (.int v1)], [], M, 0)) = (fun (v1 : Int32) (M : Mem) => some (.inr (.inr "java/lang/IndexOutOfBoundsException", M, 1))) := by rfl
set_option maxRecDepth 100000 in
theorem b_X7_needRule_2 : (fun (v1 : Int32) (M : Mem) => run C_X7_needRule 1 (20, [some (.ref 0), some (.int v1)], [], M, 0)) = (fun (v1 : Int32) (M : Mem) => some (.inr (.inl none, M, 0))) := by rfl
def d_X7_needRule (v1 : Int32) (M : Mem) : Option (Res × Mem) := (if (d_X7_isFrom (0 : Int32) v1 (3 : Int32)) = 0 then some (.inr "java/lang/IndexOutOfBoundsException", M) else some (.inl none, M))
set_option maxHeartbeats 2000000 in
theorem r_X7_needRule (v1 : Int32) (M : Mem) : RG C_X7_needRule (0, [some (.ref 0), some (.int v1)], [], M, 0) (d_X7_needRule v1 M) (fun r => .inr r) := by
  unfold d_X7_needRule
  refine RG.st 5 (congrFun (congrFun b_X7_needRule_0 v1) M) ?_
  refine RG.ite (fun h1 => RG.brNF (q := 9) h1 rfl ?_) (fun h1 => RG.brNT (q := 20) h1 rfl ?_)
  · exact RG.fin rfl (Rend.run 1 (congrFun (congrFun b_X7_needRule_1 v1) M))
  · exact RG.fin rfl (Rend.run 1 (congrFun (congrFun b_X7_needRule_2 v1) M))
def fn_X7_needRule : Fn := fun av M => match av with
  | [.ref r0, .int v1] => bif Nat.beq r0 0 then (d_X7_needRule v1 M) else (none)
  | _ => none
theorem cfg_X7_needRule : CfgOK RX7 cX7_needRule (C_X7_needRule) 6 := ⟨tk_X7_needRule, csF_nd, flk_X7, (List.forall_mem_cons.mpr ⟨Or.inr ⟨yX7_isFrom, cX7_isFrom, 3, (some .boolean), none, 1, ok_X7_isFrom, by decide, by decide, w_code_Sumsetry_isFrom__III_Z, w_initialized_Sumsetry, ⟨by decide, by decide⟩, Or.inl ⟨rfl, show (parseMethodDescriptor yX7_isFrom.desc).map (fun d => d.parameters.length) = some 3 from by decide +kernel, w_methodLink_Sumsetry_52, w_static_Sumsetry_isFrom__III_Z⟩⟩, fun _ h => absurd h List.not_mem_nil⟩), ink_X7, lgk_X7, by decide +kernel, (fun h hh => absurd hh List.not_mem_nil)⟩
theorem ok_X7_needRule : OkM csF yX7_needRule (Cond.code yX7_needRule cX7_needRule 2 none) 6 1 fn_X7_needRule :=
  OkM_of (own := RX7) (C := C_X7_needRule) (by decide +kernel) rfl (cfg_X7_needRule) rfl rfl rfl rfl (by
    intro av M o M' h
    unfold fn_X7_needRule at h
    split at h
    · rename_i r0 v1
      rcases bif_cs h with ⟨hb, h⟩ | ⟨-, h⟩
      · skip
        have hr0 := hb
        obtain rfl := Nat.eq_of_beq_eq_true hr0
        exact ⟨rfl, Nat.le_of_ble_eq_true rfl, (r_X7_needRule v1 M) (o, M') h⟩
      · cases h
    · cases h)
def t_X7_keeps : List (Nat × Instr × Nat) := [(0, .aload_n 0, 1), (1, .iload_n 1, 1), (2, .invokevirtual 98, 3), (5, .aload_n 0, 1), (6, .iload_n 2, 1), (7, .invokevirtual 175, 3), (10, .aload_n 0, 1), (11, .getfield 10, 3), (14, .aload_n 0, 1), (15, .iload_n 1, 1), (16, .invokevirtual 103, 3), (19, .iload_n 2, 1), (20, .invokestatic 178, 3), (23, .ireturn, 1)]
theorem tk_X7_keeps : ∀ x ∈ t_X7_keeps, decode cX7_keeps x.1 = .ok x.2 := by decide +kernel
def C_X7_keeps : Cfg := (t_X7_keeps, csF, fl_X7, [(98, 2, 5, 2, 1, fn_X7_needSet), (103, 2, 5, 2, 0, fn_X7_bitsOf), (175, 2, 5, 2, 1, fn_X7_needRule), (178, 0, 0, 3, 0, fn_X4_hold)], in_X7, lg_X7, [], [], none, (some .boolean), 2)
set_option maxRecDepth 100000 in
theorem b_X7_keeps_0 : (fun (v1 : Int32) (v2 : Int32) (M : Mem) => run C_X7_keeps 2 (0, [some (.ref 0), some (.int v1), some (.int v2)], [], M, 0)) = (fun (v1 : Int32) (v2 : Int32) (M : Mem) => some (.inl (2, [some (.ref 0), some (.int v1), some (.int v2)], [.int v1, .ref 0], M, 0))) := by rfl
set_option maxRecDepth 100000 in
theorem b_X7_keeps_1 : (fun (v1 : Int32) (v2 : Int32) (M1 : Mem) => run C_X7_keeps 2 (5, [some (.ref 0), some (.int v1), some (.int v2)], [], M1, 1)) = (fun (v1 : Int32) (v2 : Int32) (M1 : Mem) => some (.inl (7, [some (.ref 0), some (.int v1), some (.int v2)], [.int v2, .ref 0], M1, 1))) := by rfl
set_option maxRecDepth 100000 in
theorem b_X7_keeps_2 : (fun (v1 : Int32) (v2 : Int32) (M2 : Mem) => run C_X7_keeps 6 (10, [some (.ref 0), some (.int v1), some (.int v2)], [], M2, 2)) = (fun (v1 : Int32) (v2 : Int32) (M2 : Mem) => some (.inl (20, [some (.ref 0), some (.int v1), some (.int v2)], [.int v2, .long (d_X7_bitsOf v1 M2), .ref 2], M2, 2))) := by rfl
set_option maxRecDepth 100000 in
theorem b_X7_keeps_3 : (fun (v1 : Int32) (v2 : Int32) (M2 : Mem) (w3 : Int32) => run C_X7_keeps 1 (23, [some (.ref 0), some (.int v1), some (.int v2)], [.int w3], M2, 2)) = (fun (v1 : Int32) (v2 : Int32) (M2 : Mem) (w3 : Int32) => some (.inr (.inl (some (.int (w3 &&& 1))), M2, 2))) := by rfl
def d_X7_keeps (v1 : Int32) (v2 : Int32) (M : Mem) : Option (Res × Mem) := (onV (d_X7_needSet v1 M) (fun M1 => (onV (d_X7_needRule v2 M1) (fun M2 => ((d_X4_hold (d_X7_bitsOf v1 M2) v2 M2).bind fun w3 => some (.inl (some (.int (w3 &&& 1))), M2))) (fun r => some r))) (fun r => some r))
set_option maxHeartbeats 2000000 in
theorem r_X7_keeps (v1 : Int32) (v2 : Int32) (M : Mem) : RG C_X7_keeps (0, [some (.ref 0), some (.int v1), some (.int v2)], [], M, 0) (d_X7_keeps v1 v2 M) (fun r => .inr r) := by
  unfold d_X7_keeps
  refine RG.st 2 (congrFun (congrFun (congrFun b_X7_keeps_0 v1) v2) M) ?_
  refine RG.callV (fun M1 h1 => RG.st 1 (run_callV (v := none) rfl rfl rfl rfl rfl h1) ?_) (fun E M1 h1 => RG.fin rfl (Rend.run 1 (run_callVx rfl rfl rfl rfl rfl h1 rfl)))
  show RG C_X7_keeps (5, [some (.ref 0), some (.int v1), some (.int v2)], [], M1, 1) _ _
  refine RG.st 2 (congrFun (congrFun (congrFun b_X7_keeps_1 v1) v2) M1) ?_
  refine RG.callV (fun M2 h2 => RG.st 1 (run_callV (v := none) rfl rfl rfl rfl rfl h2) ?_) (fun E M2 h2 => RG.fin rfl (Rend.run 1 (run_callVx rfl rfl rfl rfl rfl h2 rfl)))
  show RG C_X7_keeps (10, [some (.ref 0), some (.int v1), some (.int v2)], [], M2, 2) _ _
  refine RG.st 6 (congrFun (congrFun (congrFun b_X7_keeps_2 v1) v2) M2) ?_
  refine RG.bind (fun w3 h3 => RG.st 1 (run_callS (v := some (.int w3)) rfl rfl rfl rfl (bindI h3)) ?_)
  show RG C_X7_keeps (23, [some (.ref 0), some (.int v1), some (.int v2)], [.int w3], M2, 2) _ _
  exact RG.fin rfl (Rend.run 1 (congrFun (congrFun (congrFun (congrFun b_X7_keeps_3 v1) v2) M2) w3))
def fn_X7_keeps : Fn := fun av M => match av with
  | [.ref r0, .int v1, .int v2] => bif Nat.beq r0 0 then (d_X7_keeps v1 v2 M) else (none)
  | _ => none
theorem cfg_X7_keeps : CfgOK RX7 cX7_keeps (C_X7_keeps) 7 := ⟨tk_X7_keeps, csF_nd, flk_X7, (List.forall_mem_cons.mpr ⟨Or.inr ⟨yX7_needSet, cX7_needSet, 2, none, none, 6, ok_X7_needSet, by decide, by decide, w_code_Sumsetry_needSet__I_V, w_initialized_Sumsetry, ⟨by decide, by decide⟩, Or.inr (Or.inr ⟨rfl, rfl, show (parseMethodDescriptor yX7_needSet.desc).map (fun d => d.parameters.length + 1) = some 2 from by decide +kernel, w_methodLink_Sumsetry_98, w_instanceMethod_Sumsetry_needSet__I_V, w_selects_Sumsetry_needSet__I_V, ⟨_, rfl, rfl⟩⟩)⟩,
    List.forall_mem_cons.mpr ⟨Or.inr ⟨yX7_bitsOf, cX7_bitsOf, 2, (some .long), none, 1, ok_X7_bitsOf, by decide, by decide, w_code_Sumsetry_bitsOf__I_J, w_initialized_Sumsetry, ⟨by decide, by decide⟩, Or.inr (Or.inr ⟨rfl, rfl, show (parseMethodDescriptor yX7_bitsOf.desc).map (fun d => d.parameters.length + 1) = some 2 from by decide +kernel, w_methodLink_Sumsetry_103, w_instanceMethod_Sumsetry_bitsOf__I_J, w_selects_Sumsetry_bitsOf__I_J, ⟨_, rfl, rfl⟩⟩)⟩,
    List.forall_mem_cons.mpr ⟨Or.inr ⟨yX7_needRule, cX7_needRule, 2, none, none, 6, ok_X7_needRule, by decide, by decide, w_code_Sumsetry_needRule__I_V, w_initialized_Sumsetry, ⟨by decide, by decide⟩, Or.inr (Or.inr ⟨rfl, rfl, show (parseMethodDescriptor yX7_needRule.desc).map (fun d => d.parameters.length + 1) = some 2 from by decide +kernel, w_methodLink_Sumsetry_175, w_instanceMethod_Sumsetry_needRule__I_V, w_selects_Sumsetry_needRule__I_V, ⟨_, rfl, rfl⟩⟩)⟩,
    List.forall_mem_cons.mpr ⟨Or.inr ⟨yX4_hold, cX4_hold, 4, (some .boolean), none, 6, ok_X4_hold, by decide, by decide, w_code_Sumsetry_Rules_hold__LSumsetry_Group_JI_Z, w_initialized_Sumsetry_Rules, ⟨by decide, by decide⟩, Or.inl ⟨rfl, show (parseMethodDescriptor yX4_hold.desc).map (fun d => d.parameters.length) = some 3 from by decide +kernel, w_methodLink_Sumsetry_178, w_static_Sumsetry_Rules_hold__LSumsetry_Group_JI_Z⟩⟩, fun _ h => absurd h List.not_mem_nil⟩⟩⟩⟩), ink_X7, lgk_X7, fun e h => absurd h List.not_mem_nil, (fun h hh => absurd hh List.not_mem_nil)⟩
theorem ok_X7_keeps : OkM csF yX7_keeps (Cond.code yX7_keeps cX7_keeps 3 (some .boolean)) 7 2 fn_X7_keeps :=
  OkM_of (own := RX7) (C := C_X7_keeps) (by decide +kernel) rfl (cfg_X7_keeps) rfl rfl rfl rfl (by
    intro av M o M' h
    unfold fn_X7_keeps at h
    split at h
    · rename_i r0 v1 v2
      rcases bif_cs h with ⟨hb, h⟩ | ⟨-, h⟩
      · skip
        have hr0 := hb
        obtain rfl := Nat.eq_of_beq_eq_true hr0
        exact ⟨rfl, Nat.le_of_ble_eq_true rfl, (r_X7_keeps v1 v2 M) (o, M') h⟩
      · cases h
    · cases h)
def t_X7_needSearchable : List (Nat × Instr × Nat) := [(0, .aload_n 0, 1), (1, .iload_n 1, 1), (2, .invokevirtual 103, 3), (5, .invokestatic 142, 3), (8, .bipush 12, 2), (10, .if_icmp .le 14, 3), (13, .new 198, 3), (16, .dup, 1), (17, .ldc_w 269, 3), (20, .invokespecial 202, 3), (23, .athrow, 1), (24, .return_, 1)]
theorem tk_X7_needSearchable : ∀ x ∈ t_X7_needSearchable, decode cX7_needSearchable x.1 = .ok x.2 := by decide +kernel
def C_X7_needSearchable : Cfg := (t_X7_needSearchable, csF, fl_X7, [(103, 2, 5, 2, 0, fn_X7_bitsOf), (142, 0, 0, 1, 0, fn_J13_bitCount_95d88)], in_X7, lg_X7, [(13, "java/lang/IllegalStateException", 198, 269, 202, "the set is too great")], [], none, none, 1)
set_option maxRecDepth 100000 in
theorem b_X7_needSearchable_0 : (fun (v1 : Int32) (M : Mem) => run C_X7_needSearchable 6 (0, [some (.ref 0), some (.int v1)], [], M, 0)) = (fun (v1 : Int32) (M : Mem) => some (.inl ((br (decide ((d_J13_bitCount_95d88 (d_X7_bitsOf v1 M)) ≤ (12 : Int32))) 10 3 (14)), [some (.ref 0), some (.int v1)], [], M, 0))) := by rfl
set_option maxRecDepth 100000 in
theorem b_X7_needSearchable_1 : (fun (v1 : Int32) (M : Mem) => run C_X7_needSearchable 1 (24, [some (.ref 0), some (.int v1)], [], M, 0)) = (fun (v1 : Int32) (M : Mem) => some (.inr (.inl none, M, 0))) := by rfl
set_option maxRecDepth 100000 in
theorem b_X7_needSearchable_2 : (fun (v1 : Int32) (M : Mem) => run C_X7_needSearchable 1 (13, [some (.ref 0), some (.int v1)], [], M, 0)) = (fun (v1 : Int32) (M : Mem) => some (.inr (.inr "java/lang/IllegalStateException", M, 1))) := by rfl
def d_X7_needSearchable (v1 : Int32) (M : Mem) : Option (Res × Mem) := (if (d_J13_bitCount_95d88 (d_X7_bitsOf v1 M)) ≤ (12 : Int32) then some (.inl none, M) else some (.inr "java/lang/IllegalStateException", M))
set_option maxHeartbeats 2000000 in
theorem r_X7_needSearchable (v1 : Int32) (M : Mem) : RG C_X7_needSearchable (0, [some (.ref 0), some (.int v1)], [], M, 0) (d_X7_needSearchable v1 M) (fun r => .inr r) := by
  unfold d_X7_needSearchable
  refine RG.st 6 (congrFun (congrFun b_X7_needSearchable_0 v1) M) ?_
  refine RG.ite (fun h1 => RG.brT (q := 24) h1 rfl ?_) (fun h1 => RG.brF (q := 13) h1 rfl ?_)
  · exact RG.fin rfl (Rend.run 1 (congrFun (congrFun b_X7_needSearchable_1 v1) M))
  · exact RG.fin rfl (Rend.run 1 (congrFun (congrFun b_X7_needSearchable_2 v1) M))
def fn_X7_needSearchable : Fn := fun av M => match av with
  | [.ref r0, .int v1] => bif Nat.beq r0 0 then (d_X7_needSearchable v1 M) else (none)
  | _ => none
theorem cfg_X7_needSearchable : CfgOK RX7 cX7_needSearchable (C_X7_needSearchable) 6 := ⟨tk_X7_needSearchable, csF_nd, flk_X7, (List.forall_mem_cons.mpr ⟨Or.inr ⟨yX7_bitsOf, cX7_bitsOf, 2, (some .long), none, 1, ok_X7_bitsOf, by decide, by decide, w_code_Sumsetry_bitsOf__I_J, w_initialized_Sumsetry, ⟨by decide, by decide⟩, Or.inr (Or.inr ⟨rfl, rfl, show (parseMethodDescriptor yX7_bitsOf.desc).map (fun d => d.parameters.length + 1) = some 2 from by decide +kernel, w_methodLink_Sumsetry_103, w_instanceMethod_Sumsetry_bitsOf__I_J, w_selects_Sumsetry_bitsOf__I_J, ⟨_, rfl, rfl⟩⟩)⟩,
    List.forall_mem_cons.mpr ⟨Or.inr ⟨yJ13_bitCount_95d88, cJ13_bitCount_95d88, 2, (some .int), none, 1, ok_J13_bitCount_95d88, by decide, by decide, w_code_java_lang_Long_bitCount__J_I, w_initialized_java_lang_Long, ⟨by decide, by decide⟩, Or.inl ⟨rfl, show (parseMethodDescriptor yJ13_bitCount_95d88.desc).map (fun d => d.parameters.length) = some 1 from by decide +kernel, w_methodLink_Sumsetry_142, w_static_java_lang_Long_bitCount__J_I⟩⟩, fun _ h => absurd h List.not_mem_nil⟩⟩), ink_X7, lgk_X7, by decide +kernel, (fun h hh => absurd hh List.not_mem_nil)⟩
theorem ok_X7_needSearchable : OkM csF yX7_needSearchable (Cond.code yX7_needSearchable cX7_needSearchable 2 none) 6 1 fn_X7_needSearchable :=
  OkM_of (own := RX7) (C := C_X7_needSearchable) (by decide +kernel) rfl (cfg_X7_needSearchable) rfl rfl rfl rfl (by
    intro av M o M' h
    unfold fn_X7_needSearchable at h
    split at h
    · rename_i r0 v1
      rcases bif_cs h with ⟨hb, h⟩ | ⟨-, h⟩
      · skip
        have hr0 := hb
        obtain rfl := Nat.eq_of_beq_eq_true hr0
        exact ⟨rfl, Nat.le_of_ble_eq_true rfl, (r_X7_needSearchable v1 M) (o, M') h⟩
      · cases h
    · cases h)
def t_X7_greatest : List (Nat × Instr × Nat) := [(0, .aload_n 0, 1), (1, .iload_n 1, 1), (2, .invokevirtual 98, 3), (5, .aload_n 0, 1), (6, .iload_n 2, 1), (7, .invokevirtual 175, 3), (10, .aload_n 0, 1), (11, .iload_n 1, 1), (12, .invokevirtual 184, 3), (15, .aload_n 0, 1), (16, .getfield 10, 3), (19, .aload_n 0, 1), (20, .iload_n 1, 1), (21, .invokevirtual 103, 3), (24, .iload_n 2, 1), (25, .invokestatic 187, 3), (28, .lreturn, 1)]
theorem tk_X7_greatest : ∀ x ∈ t_X7_greatest, decode cX7_greatest x.1 = .ok x.2 := by decide +kernel
def C_X7_greatest : Cfg := (t_X7_greatest, csF, fl_X7, [(98, 2, 5, 2, 1, fn_X7_needSet), (103, 2, 5, 2, 0, fn_X7_bitsOf), (175, 2, 5, 2, 1, fn_X7_needRule), (184, 2, 5, 2, 1, fn_X7_needSearchable), (187, 0, 0, 3, 0, fn_X5_byBranches)], in_X7, lg_X7, [], [], none, (some .long), 3)
set_option maxRecDepth 100000 in
theorem b_X7_greatest_0 : (fun (v1 : Int32) (v2 : Int32) (M : Mem) => run C_X7_greatest 2 (0, [some (.ref 0), some (.int v1), some (.int v2)], [], M, 0)) = (fun (v1 : Int32) (v2 : Int32) (M : Mem) => some (.inl (2, [some (.ref 0), some (.int v1), some (.int v2)], [.int v1, .ref 0], M, 0))) := by rfl
set_option maxRecDepth 100000 in
theorem b_X7_greatest_1 : (fun (v1 : Int32) (v2 : Int32) (M1 : Mem) => run C_X7_greatest 2 (5, [some (.ref 0), some (.int v1), some (.int v2)], [], M1, 1)) = (fun (v1 : Int32) (v2 : Int32) (M1 : Mem) => some (.inl (7, [some (.ref 0), some (.int v1), some (.int v2)], [.int v2, .ref 0], M1, 1))) := by rfl
set_option maxRecDepth 100000 in
theorem b_X7_greatest_2 : (fun (v1 : Int32) (v2 : Int32) (M2 : Mem) => run C_X7_greatest 2 (10, [some (.ref 0), some (.int v1), some (.int v2)], [], M2, 2)) = (fun (v1 : Int32) (v2 : Int32) (M2 : Mem) => some (.inl (12, [some (.ref 0), some (.int v1), some (.int v2)], [.int v1, .ref 0], M2, 2))) := by rfl
set_option maxRecDepth 100000 in
theorem b_X7_greatest_3 : (fun (v1 : Int32) (v2 : Int32) (M3 : Mem) => run C_X7_greatest 6 (15, [some (.ref 0), some (.int v1), some (.int v2)], [], M3, 3)) = (fun (v1 : Int32) (v2 : Int32) (M3 : Mem) => some (.inl (25, [some (.ref 0), some (.int v1), some (.int v2)], [.int v2, .long (d_X7_bitsOf v1 M3), .ref 2], M3, 3))) := by rfl
set_option maxRecDepth 100000 in
theorem b_X7_greatest_4 : (fun (v1 : Int32) (v2 : Int32) (M3 : Mem) (w4 : Int64) => run C_X7_greatest 1 (28, [some (.ref 0), some (.int v1), some (.int v2)], [.long w4], M3, 3)) = (fun (v1 : Int32) (v2 : Int32) (M3 : Mem) (w4 : Int64) => some (.inr (.inl (some (.long w4)), M3, 3))) := by rfl
def d_X7_greatest (v1 : Int32) (v2 : Int32) (M : Mem) : Option (Res × Mem) := (onV (d_X7_needSet v1 M) (fun M1 => (onV (d_X7_needRule v2 M1) (fun M2 => (onV (d_X7_needSearchable v1 M2) (fun M3 => ((d_X5_byBranches (d_X7_bitsOf v1 M3) v2 M3).bind fun w4 => some (.inl (some (.long w4)), M3))) (fun r => some r))) (fun r => some r))) (fun r => some r))
set_option maxHeartbeats 2000000 in
theorem r_X7_greatest (v1 : Int32) (v2 : Int32) (M : Mem) : RG C_X7_greatest (0, [some (.ref 0), some (.int v1), some (.int v2)], [], M, 0) (d_X7_greatest v1 v2 M) (fun r => .inr r) := by
  unfold d_X7_greatest
  refine RG.st 2 (congrFun (congrFun (congrFun b_X7_greatest_0 v1) v2) M) ?_
  refine RG.callV (fun M1 h1 => RG.st 1 (run_callV (v := none) rfl rfl rfl rfl rfl h1) ?_) (fun E M1 h1 => RG.fin rfl (Rend.run 1 (run_callVx rfl rfl rfl rfl rfl h1 rfl)))
  show RG C_X7_greatest (5, [some (.ref 0), some (.int v1), some (.int v2)], [], M1, 1) _ _
  refine RG.st 2 (congrFun (congrFun (congrFun b_X7_greatest_1 v1) v2) M1) ?_
  refine RG.callV (fun M2 h2 => RG.st 1 (run_callV (v := none) rfl rfl rfl rfl rfl h2) ?_) (fun E M2 h2 => RG.fin rfl (Rend.run 1 (run_callVx rfl rfl rfl rfl rfl h2 rfl)))
  show RG C_X7_greatest (10, [some (.ref 0), some (.int v1), some (.int v2)], [], M2, 2) _ _
  refine RG.st 2 (congrFun (congrFun (congrFun b_X7_greatest_2 v1) v2) M2) ?_
  refine RG.callV (fun M3 h3 => RG.st 1 (run_callV (v := none) rfl rfl rfl rfl rfl h3) ?_) (fun E M3 h3 => RG.fin rfl (Rend.run 1 (run_callVx rfl rfl rfl rfl rfl h3 rfl)))
  show RG C_X7_greatest (15, [some (.ref 0), some (.int v1), some (.int v2)], [], M3, 3) _ _
  refine RG.st 6 (congrFun (congrFun (congrFun b_X7_greatest_3 v1) v2) M3) ?_
  refine RG.bind (fun w4 h4 => RG.st 1 (run_callS (v := some (.long w4)) rfl rfl rfl rfl (bindL h4)) ?_)
  show RG C_X7_greatest (28, [some (.ref 0), some (.int v1), some (.int v2)], [.long w4], M3, 3) _ _
  exact RG.fin rfl (Rend.run 1 (congrFun (congrFun (congrFun (congrFun b_X7_greatest_4 v1) v2) M3) w4))
def fn_X7_greatest : Fn := fun av M => match av with
  | [.ref r0, .int v1, .int v2] => bif Nat.beq r0 0 then (d_X7_greatest v1 v2 M) else (none)
  | _ => none
theorem cfg_X7_greatest : CfgOK RX7 cX7_greatest (C_X7_greatest) 23 := ⟨tk_X7_greatest, csF_nd, flk_X7, (List.forall_mem_cons.mpr ⟨Or.inr ⟨yX7_needSet, cX7_needSet, 2, none, none, 6, ok_X7_needSet, by decide, by decide, w_code_Sumsetry_needSet__I_V, w_initialized_Sumsetry, ⟨by decide, by decide⟩, Or.inr (Or.inr ⟨rfl, rfl, show (parseMethodDescriptor yX7_needSet.desc).map (fun d => d.parameters.length + 1) = some 2 from by decide +kernel, w_methodLink_Sumsetry_98, w_instanceMethod_Sumsetry_needSet__I_V, w_selects_Sumsetry_needSet__I_V, ⟨_, rfl, rfl⟩⟩)⟩,
    List.forall_mem_cons.mpr ⟨Or.inr ⟨yX7_bitsOf, cX7_bitsOf, 2, (some .long), none, 1, ok_X7_bitsOf, by decide, by decide, w_code_Sumsetry_bitsOf__I_J, w_initialized_Sumsetry, ⟨by decide, by decide⟩, Or.inr (Or.inr ⟨rfl, rfl, show (parseMethodDescriptor yX7_bitsOf.desc).map (fun d => d.parameters.length + 1) = some 2 from by decide +kernel, w_methodLink_Sumsetry_103, w_instanceMethod_Sumsetry_bitsOf__I_J, w_selects_Sumsetry_bitsOf__I_J, ⟨_, rfl, rfl⟩⟩)⟩,
    List.forall_mem_cons.mpr ⟨Or.inr ⟨yX7_needRule, cX7_needRule, 2, none, none, 6, ok_X7_needRule, by decide, by decide, w_code_Sumsetry_needRule__I_V, w_initialized_Sumsetry, ⟨by decide, by decide⟩, Or.inr (Or.inr ⟨rfl, rfl, show (parseMethodDescriptor yX7_needRule.desc).map (fun d => d.parameters.length + 1) = some 2 from by decide +kernel, w_methodLink_Sumsetry_175, w_instanceMethod_Sumsetry_needRule__I_V, w_selects_Sumsetry_needRule__I_V, ⟨_, rfl, rfl⟩⟩)⟩,
    List.forall_mem_cons.mpr ⟨Or.inr ⟨yX7_needSearchable, cX7_needSearchable, 2, none, none, 6, ok_X7_needSearchable, by decide, by decide, w_code_Sumsetry_needSearchable__I_V, w_initialized_Sumsetry, ⟨by decide, by decide⟩, Or.inr (Or.inr ⟨rfl, rfl, show (parseMethodDescriptor yX7_needSearchable.desc).map (fun d => d.parameters.length + 1) = some 2 from by decide +kernel, w_methodLink_Sumsetry_184, w_instanceMethod_Sumsetry_needSearchable__I_V, w_selects_Sumsetry_needSearchable__I_V, ⟨_, rfl, rfl⟩⟩)⟩,
    List.forall_mem_cons.mpr ⟨Or.inr ⟨yX5_byBranches, cX5_byBranches, 4, (some .long), none, 22, ok_X5_byBranches, by decide, by decide, w_code_Sumsetry_Search_byBranches__LSumsetry_Group_JI_J, w_initialized_Sumsetry_Search, ⟨by decide, by decide⟩, Or.inl ⟨rfl, show (parseMethodDescriptor yX5_byBranches.desc).map (fun d => d.parameters.length) = some 3 from by decide +kernel, w_methodLink_Sumsetry_187, w_static_Sumsetry_Search_byBranches__LSumsetry_Group_JI_J⟩⟩, fun _ h => absurd h List.not_mem_nil⟩⟩⟩⟩⟩), ink_X7, lgk_X7, fun e h => absurd h List.not_mem_nil, (fun h hh => absurd hh List.not_mem_nil)⟩
theorem ok_X7_greatest : OkM csF yX7_greatest (Cond.code yX7_greatest cX7_greatest 3 (some .long)) 23 3 fn_X7_greatest :=
  OkM_of (own := RX7) (C := C_X7_greatest) (by decide +kernel) rfl (cfg_X7_greatest) rfl rfl rfl rfl (by
    intro av M o M' h
    unfold fn_X7_greatest at h
    split at h
    · rename_i r0 v1 v2
      rcases bif_cs h with ⟨hb, h⟩ | ⟨-, h⟩
      · skip
        have hr0 := hb
        obtain rfl := Nat.eq_of_beq_eq_true hr0
        exact ⟨rfl, Nat.le_of_ble_eq_true rfl, (r_X7_greatest v1 v2 M) (o, M') h⟩
      · cases h
    · cases h)
def t_X7_greatestAnew : List (Nat × Instr × Nat) := [(0, .aload_n 0, 1), (1, .iload_n 1, 1), (2, .invokevirtual 98, 3), (5, .aload_n 0, 1), (6, .iload_n 2, 1), (7, .invokevirtual 175, 3), (10, .aload_n 0, 1), (11, .iload_n 1, 1), (12, .invokevirtual 184, 3), (15, .aload_n 0, 1), (16, .getfield 10, 3), (19, .aload_n 0, 1), (20, .iload_n 1, 1), (21, .invokevirtual 103, 3), (24, .iload_n 2, 1), (25, .invokestatic 193, 3), (28, .lreturn, 1)]
theorem tk_X7_greatestAnew : ∀ x ∈ t_X7_greatestAnew, decode cX7_greatestAnew x.1 = .ok x.2 := by decide +kernel
def C_X7_greatestAnew : Cfg := (t_X7_greatestAnew, csF, fl_X7, [(98, 2, 5, 2, 1, fn_X7_needSet), (103, 2, 5, 2, 0, fn_X7_bitsOf), (175, 2, 5, 2, 1, fn_X7_needRule), (184, 2, 5, 2, 1, fn_X7_needSearchable), (193, 0, 0, 3, 0, fn_X5_byAll)], in_X7, lg_X7, [], [], none, (some .long), 3)
set_option maxRecDepth 100000 in
theorem b_X7_greatestAnew_0 : (fun (v1 : Int32) (v2 : Int32) (M : Mem) => run C_X7_greatestAnew 2 (0, [some (.ref 0), some (.int v1), some (.int v2)], [], M, 0)) = (fun (v1 : Int32) (v2 : Int32) (M : Mem) => some (.inl (2, [some (.ref 0), some (.int v1), some (.int v2)], [.int v1, .ref 0], M, 0))) := by rfl
set_option maxRecDepth 100000 in
theorem b_X7_greatestAnew_1 : (fun (v1 : Int32) (v2 : Int32) (M1 : Mem) => run C_X7_greatestAnew 2 (5, [some (.ref 0), some (.int v1), some (.int v2)], [], M1, 1)) = (fun (v1 : Int32) (v2 : Int32) (M1 : Mem) => some (.inl (7, [some (.ref 0), some (.int v1), some (.int v2)], [.int v2, .ref 0], M1, 1))) := by rfl
set_option maxRecDepth 100000 in
theorem b_X7_greatestAnew_2 : (fun (v1 : Int32) (v2 : Int32) (M2 : Mem) => run C_X7_greatestAnew 2 (10, [some (.ref 0), some (.int v1), some (.int v2)], [], M2, 2)) = (fun (v1 : Int32) (v2 : Int32) (M2 : Mem) => some (.inl (12, [some (.ref 0), some (.int v1), some (.int v2)], [.int v1, .ref 0], M2, 2))) := by rfl
set_option maxRecDepth 100000 in
theorem b_X7_greatestAnew_3 : (fun (v1 : Int32) (v2 : Int32) (M3 : Mem) => run C_X7_greatestAnew 6 (15, [some (.ref 0), some (.int v1), some (.int v2)], [], M3, 3)) = (fun (v1 : Int32) (v2 : Int32) (M3 : Mem) => some (.inl (25, [some (.ref 0), some (.int v1), some (.int v2)], [.int v2, .long (d_X7_bitsOf v1 M3), .ref 2], M3, 3))) := by rfl
set_option maxRecDepth 100000 in
theorem b_X7_greatestAnew_4 : (fun (v1 : Int32) (v2 : Int32) (M3 : Mem) (w4 : Int64) => run C_X7_greatestAnew 1 (28, [some (.ref 0), some (.int v1), some (.int v2)], [.long w4], M3, 3)) = (fun (v1 : Int32) (v2 : Int32) (M3 : Mem) (w4 : Int64) => some (.inr (.inl (some (.long w4)), M3, 3))) := by rfl
def d_X7_greatestAnew (v1 : Int32) (v2 : Int32) (M : Mem) : Option (Res × Mem) := (onV (d_X7_needSet v1 M) (fun M1 => (onV (d_X7_needRule v2 M1) (fun M2 => (onV (d_X7_needSearchable v1 M2) (fun M3 => ((d_X5_byAll (d_X7_bitsOf v1 M3) v2 M3).bind fun w4 => some (.inl (some (.long w4)), M3))) (fun r => some r))) (fun r => some r))) (fun r => some r))
set_option maxHeartbeats 2000000 in
theorem r_X7_greatestAnew (v1 : Int32) (v2 : Int32) (M : Mem) : RG C_X7_greatestAnew (0, [some (.ref 0), some (.int v1), some (.int v2)], [], M, 0) (d_X7_greatestAnew v1 v2 M) (fun r => .inr r) := by
  unfold d_X7_greatestAnew
  refine RG.st 2 (congrFun (congrFun (congrFun b_X7_greatestAnew_0 v1) v2) M) ?_
  refine RG.callV (fun M1 h1 => RG.st 1 (run_callV (v := none) rfl rfl rfl rfl rfl h1) ?_) (fun E M1 h1 => RG.fin rfl (Rend.run 1 (run_callVx rfl rfl rfl rfl rfl h1 rfl)))
  show RG C_X7_greatestAnew (5, [some (.ref 0), some (.int v1), some (.int v2)], [], M1, 1) _ _
  refine RG.st 2 (congrFun (congrFun (congrFun b_X7_greatestAnew_1 v1) v2) M1) ?_
  refine RG.callV (fun M2 h2 => RG.st 1 (run_callV (v := none) rfl rfl rfl rfl rfl h2) ?_) (fun E M2 h2 => RG.fin rfl (Rend.run 1 (run_callVx rfl rfl rfl rfl rfl h2 rfl)))
  show RG C_X7_greatestAnew (10, [some (.ref 0), some (.int v1), some (.int v2)], [], M2, 2) _ _
  refine RG.st 2 (congrFun (congrFun (congrFun b_X7_greatestAnew_2 v1) v2) M2) ?_
  refine RG.callV (fun M3 h3 => RG.st 1 (run_callV (v := none) rfl rfl rfl rfl rfl h3) ?_) (fun E M3 h3 => RG.fin rfl (Rend.run 1 (run_callVx rfl rfl rfl rfl rfl h3 rfl)))
  show RG C_X7_greatestAnew (15, [some (.ref 0), some (.int v1), some (.int v2)], [], M3, 3) _ _
  refine RG.st 6 (congrFun (congrFun (congrFun b_X7_greatestAnew_3 v1) v2) M3) ?_
  refine RG.bind (fun w4 h4 => RG.st 1 (run_callS (v := some (.long w4)) rfl rfl rfl rfl (bindL h4)) ?_)
  show RG C_X7_greatestAnew (28, [some (.ref 0), some (.int v1), some (.int v2)], [.long w4], M3, 3) _ _
  exact RG.fin rfl (Rend.run 1 (congrFun (congrFun (congrFun (congrFun b_X7_greatestAnew_4 v1) v2) M3) w4))
def fn_X7_greatestAnew : Fn := fun av M => match av with
  | [.ref r0, .int v1, .int v2] => bif Nat.beq r0 0 then (d_X7_greatestAnew v1 v2 M) else (none)
  | _ => none
theorem cfg_X7_greatestAnew : CfgOK RX7 cX7_greatestAnew (C_X7_greatestAnew) 8 := ⟨tk_X7_greatestAnew, csF_nd, flk_X7, (List.forall_mem_cons.mpr ⟨Or.inr ⟨yX7_needSet, cX7_needSet, 2, none, none, 6, ok_X7_needSet, by decide, by decide, w_code_Sumsetry_needSet__I_V, w_initialized_Sumsetry, ⟨by decide, by decide⟩, Or.inr (Or.inr ⟨rfl, rfl, show (parseMethodDescriptor yX7_needSet.desc).map (fun d => d.parameters.length + 1) = some 2 from by decide +kernel, w_methodLink_Sumsetry_98, w_instanceMethod_Sumsetry_needSet__I_V, w_selects_Sumsetry_needSet__I_V, ⟨_, rfl, rfl⟩⟩)⟩,
    List.forall_mem_cons.mpr ⟨Or.inr ⟨yX7_bitsOf, cX7_bitsOf, 2, (some .long), none, 1, ok_X7_bitsOf, by decide, by decide, w_code_Sumsetry_bitsOf__I_J, w_initialized_Sumsetry, ⟨by decide, by decide⟩, Or.inr (Or.inr ⟨rfl, rfl, show (parseMethodDescriptor yX7_bitsOf.desc).map (fun d => d.parameters.length + 1) = some 2 from by decide +kernel, w_methodLink_Sumsetry_103, w_instanceMethod_Sumsetry_bitsOf__I_J, w_selects_Sumsetry_bitsOf__I_J, ⟨_, rfl, rfl⟩⟩)⟩,
    List.forall_mem_cons.mpr ⟨Or.inr ⟨yX7_needRule, cX7_needRule, 2, none, none, 6, ok_X7_needRule, by decide, by decide, w_code_Sumsetry_needRule__I_V, w_initialized_Sumsetry, ⟨by decide, by decide⟩, Or.inr (Or.inr ⟨rfl, rfl, show (parseMethodDescriptor yX7_needRule.desc).map (fun d => d.parameters.length + 1) = some 2 from by decide +kernel, w_methodLink_Sumsetry_175, w_instanceMethod_Sumsetry_needRule__I_V, w_selects_Sumsetry_needRule__I_V, ⟨_, rfl, rfl⟩⟩)⟩,
    List.forall_mem_cons.mpr ⟨Or.inr ⟨yX7_needSearchable, cX7_needSearchable, 2, none, none, 6, ok_X7_needSearchable, by decide, by decide, w_code_Sumsetry_needSearchable__I_V, w_initialized_Sumsetry, ⟨by decide, by decide⟩, Or.inr (Or.inr ⟨rfl, rfl, show (parseMethodDescriptor yX7_needSearchable.desc).map (fun d => d.parameters.length + 1) = some 2 from by decide +kernel, w_methodLink_Sumsetry_184, w_instanceMethod_Sumsetry_needSearchable__I_V, w_selects_Sumsetry_needSearchable__I_V, ⟨_, rfl, rfl⟩⟩)⟩,
    List.forall_mem_cons.mpr ⟨Or.inr ⟨yX5_byAll, cX5_byAll, 10, (some .long), none, 7, ok_X5_byAll, by decide, by decide, w_code_Sumsetry_Search_byAll__LSumsetry_Group_JI_J, w_initialized_Sumsetry_Search, ⟨by decide, by decide⟩, Or.inl ⟨rfl, show (parseMethodDescriptor yX5_byAll.desc).map (fun d => d.parameters.length) = some 3 from by decide +kernel, w_methodLink_Sumsetry_193, w_static_Sumsetry_Search_byAll__LSumsetry_Group_JI_J⟩⟩, fun _ h => absurd h List.not_mem_nil⟩⟩⟩⟩⟩), ink_X7, lgk_X7, fun e h => absurd h List.not_mem_nil, (fun h hh => absurd hh List.not_mem_nil)⟩
theorem ok_X7_greatestAnew : OkM csF yX7_greatestAnew (Cond.code yX7_greatestAnew cX7_greatestAnew 3 (some .long)) 8 3 fn_X7_greatestAnew :=
  OkM_of (own := RX7) (C := C_X7_greatestAnew) (by decide +kernel) rfl (cfg_X7_greatestAnew) rfl rfl rfl rfl (by
    intro av M o M' h
    unfold fn_X7_greatestAnew at h
    split at h
    · rename_i r0 v1 v2
      rcases bif_cs h with ⟨hb, h⟩ | ⟨-, h⟩
      · skip
        have hr0 := hb
        obtain rfl := Nat.eq_of_beq_eq_true hr0
        exact ⟨rfl, Nat.le_of_ble_eq_true rfl, (r_X7_greatestAnew v1 v2 M) (o, M') h⟩
      · cases h
    · cases h)
def t_X7_wins : List (Nat × Instr × Nat) := [(0, .aload_n 0, 1), (1, .iload_n 1, 1), (2, .invokevirtual 175, 3), (5, .aload_n 0, 1), (6, .getfield 10, 3), (9, .lload_n 2, 1), (10, .invokevirtual 88, 3), (13, .ifCond .eq 15, 3), (16, .aload_n 0, 1), (17, .getfield 10, 3), (20, .lload_n 2, 1), (21, .iload_n 1, 1), (22, .invokestatic 178, 3), (25, .ifCond .ne 13, 3), (28, .new 56, 3), (31, .dup, 1), (32, .ldc 196, 2), (34, .invokespecial 60, 3), (37, .athrow, 1), (38, .aload_n 0, 1), (39, .getfield 10, 3), (42, .getfield 73, 3), (45, .bipush 10, 2), (47, .if_icmp .le 13, 3), (50, .new 198, 3), (53, .dup, 1), (54, .ldc 200, 2), (56, .invokespecial 202, 3), (59, .athrow, 1), (60, .aload_n 0, 1), (61, .getfield 34, 3), (64, .aload_n 0, 1), (65, .getfield 10, 3), (68, .lload_n 2, 1), (69, .l2i, 1), (70, .iload_n 1, 1), (71, .invokevirtual 203, 3), (74, .lreturn, 1)]
theorem tk_X7_wins : ∀ x ∈ t_X7_wins, decode cX7_wins x.1 = .ok x.2 := by decide +kernel
def C_X7_wins : Cfg := (t_X7_wins, csF, fl_X7, [(88, 2, 1, 2, 0, fn_X1_hasAll), (175, 2, 5, 2, 1, fn_X7_needRule), (178, 0, 0, 3, 0, fn_X4_hold), (203, 2, 0, 4, 0, fn_X0_winning)], in_X7, lg_X7, [(28, "java/lang/IllegalArgumentException", 56, 196, 60, "what is no element, or the rule is not kept"), (50, "java/lang/IllegalStateException", 198, 200, 202, "the group is too great")], [], none, (some .long), 2)
set_option maxRecDepth 100000 in
theorem b_X7_wins_0 : (fun (v1 : Int32) (v2 : Int64) (M : Mem) => run C_X7_wins 2 (0, [some (.ref 0), some (.int v1), some (.long v2), none], [], M, 0)) = (fun (v1 : Int32) (v2 : Int64) (M : Mem) => some (.inl (2, [some (.ref 0), some (.int v1), some (.long v2), none], [.int v1, .ref 0], M, 0))) := by rfl
set_option maxRecDepth 100000 in
theorem b_X7_wins_1 : (fun (v1 : Int32) (v2 : Int64) (M1 : Mem) => run C_X7_wins 5 (5, [some (.ref 0), some (.int v1), some (.long v2), none], [], M1, 1)) = (fun (v1 : Int32) (v2 : Int64) (M1 : Mem) => some (.inl ((br (decide ((d_X1_hasAll v2 M1) = 0)) 13 3 (15)), [some (.ref 0), some (.int v1), some (.long v2), none], [], M1, 1))) := by rfl
set_option maxRecDepth 100000 in
theorem b_X7_wins_2 : (fun (v1 : Int32) (v2 : Int64) (M1 : Mem) => run C_X7_wins 1 (28, [some (.ref 0), some (.int v1), some (.long v2), none], [], M1, 1)) = (fun (v1 : Int32) (v2 : Int64) (M1 : Mem) => some (.inr (.inr "java/lang/IllegalArgumentException", M1, 2))) := by rfl
set_option maxRecDepth 100000 in
theorem b_X7_wins_3 : (fun (v1 : Int32) (v2 : Int64) (M1 : Mem) => run C_X7_wins 4 (16, [some (.ref 0), some (.int v1), some (.long v2), none], [], M1, 1)) = (fun (v1 : Int32) (v2 : Int64) (M1 : Mem) => some (.inl (22, [some (.ref 0), some (.int v1), some (.long v2), none], [.int v1, .long v2, .ref 2], M1, 1))) := by rfl
set_option maxRecDepth 100000 in
theorem b_X7_wins_4 : (fun (v1 : Int32) (v2 : Int64) (M1 : Mem) (w2 : Int32) => run C_X7_wins 1 (25, [some (.ref 0), some (.int v1), some (.long v2), none], [.int w2], M1, 1)) = (fun (v1 : Int32) (v2 : Int64) (M1 : Mem) (w2 : Int32) => some (.inl ((br (!decide (w2 = 0)) 25 3 (13)), [some (.ref 0), some (.int v1), some (.long v2), none], [], M1, 1))) := by rfl
set_option maxRecDepth 100000 in
theorem b_X7_wins_5 : (fun (v1 : Int32) (v2 : Int64) (M1 : Mem) => run C_X7_wins 1 (28, [some (.ref 0), some (.int v1), some (.long v2), none], [], M1, 1)) = (fun (v1 : Int32) (v2 : Int64) (M1 : Mem) => some (.inr (.inr "java/lang/IllegalArgumentException", M1, 2))) := by rfl
set_option maxRecDepth 100000 in
theorem b_X7_wins_6 : (fun (v1 : Int32) (v2 : Int64) (M1 : Mem) => run C_X7_wins 5 (38, [some (.ref 0), some (.int v1), some (.long v2), none], [], M1, 1)) = (fun (v1 : Int32) (v2 : Int64) (M1 : Mem) => some (.inl ((br (decide ((M1.1 2 2) ≤ (10 : Int32))) 47 3 (13)), [some (.ref 0), some (.int v1), some (.long v2), none], [], M1, 1))) := by rfl
set_option maxRecDepth 100000 in
theorem b_X7_wins_7 : (fun (v1 : Int32) (v2 : Int64) (M1 : Mem) => run C_X7_wins 7 (60, [some (.ref 0), some (.int v1), some (.long v2), none], [], M1, 1)) = (fun (v1 : Int32) (v2 : Int64) (M1 : Mem) => some (.inl (71, [some (.ref 0), some (.int v1), some (.long v2), none], [.int v1, .int v2.toInt32, .ref 2, .ref 12], M1, 1))) := by rfl
set_option maxRecDepth 100000 in
theorem b_X7_wins_8 : (fun (v1 : Int32) (v2 : Int64) (w4 : Int64) (M3 : Mem) => run C_X7_wins 1 (74, [some (.ref 0), some (.int v1), some (.long v2), none], [.long w4], M3, 1)) = (fun (v1 : Int32) (v2 : Int64) (w4 : Int64) (M3 : Mem) => some (.inr (.inl (some (.long w4)), M3, 1))) := by rfl
set_option maxRecDepth 100000 in
theorem b_X7_wins_9 : (fun (v1 : Int32) (v2 : Int64) (M1 : Mem) => run C_X7_wins 1 (50, [some (.ref 0), some (.int v1), some (.long v2), none], [], M1, 1)) = (fun (v1 : Int32) (v2 : Int64) (M1 : Mem) => some (.inr (.inr "java/lang/IllegalStateException", M1, 2))) := by rfl
def d_X7_wins (v1 : Int32) (v2 : Int64) (M : Mem) : Option (Res × Mem) := (onV (d_X7_needRule v1 M) (fun M1 => (if (d_X1_hasAll v2 M1) = 0 then some (.inr "java/lang/IllegalArgumentException", M1) else ((d_X4_hold v2 v1 M1).bind fun w2 => (if w2 = 0 then some (.inr "java/lang/IllegalArgumentException", M1) else (if (M1.1 2 2) ≤ (10 : Int32) then (onL (d_X0_winning v2.toInt32 v1 M1) (fun w4 M3 => some (.inl (some (.long w4)), M3)) (fun r => some r)) else some (.inr "java/lang/IllegalStateException", M1)))))) (fun r => some r))
set_option maxHeartbeats 2000000 in
theorem r_X7_wins (v1 : Int32) (v2 : Int64) (M : Mem) : RG C_X7_wins (0, [some (.ref 0), some (.int v1), some (.long v2), none], [], M, 0) (d_X7_wins v1 v2 M) (fun r => .inr r) := by
  unfold d_X7_wins
  refine RG.st 2 (congrFun (congrFun (congrFun b_X7_wins_0 v1) v2) M) ?_
  refine RG.callV (fun M1 h1 => RG.st 1 (run_callV (v := none) rfl rfl rfl rfl rfl h1) ?_) (fun E M1 h1 => RG.fin rfl (Rend.run 1 (run_callVx rfl rfl rfl rfl rfl h1 rfl)))
  show RG C_X7_wins (5, [some (.ref 0), some (.int v1), some (.long v2), none], [], M1, 1) _ _
  refine RG.st 5 (congrFun (congrFun (congrFun b_X7_wins_1 v1) v2) M1) ?_
  refine RG.ite (fun h2 => RG.brT (q := 28) h2 rfl ?_) (fun h2 => RG.brF (q := 16) h2 rfl ?_)
  · exact RG.fin rfl (Rend.run 1 (congrFun (congrFun (congrFun b_X7_wins_2 v1) v2) M1))
  · refine RG.st 4 (congrFun (congrFun (congrFun b_X7_wins_3 v1) v2) M1) ?_
    refine RG.bind (fun w2 h3 => RG.st 1 (run_callS (v := some (.int w2)) rfl rfl rfl rfl (bindI h3)) ?_)
    show RG C_X7_wins (25, [some (.ref 0), some (.int v1), some (.long v2), none], [.int w2], M1, 1) _ _
    refine RG.st 1 (congrFun (congrFun (congrFun (congrFun b_X7_wins_4 v1) v2) M1) w2) ?_
    refine RG.ite (fun h4 => RG.brNF (q := 28) h4 rfl ?_) (fun h4 => RG.brNT (q := 38) h4 rfl ?_)
    · exact RG.fin rfl (Rend.run 1 (congrFun (congrFun (congrFun b_X7_wins_5 v1) v2) M1))
    · refine RG.st 5 (congrFun (congrFun (congrFun b_X7_wins_6 v1) v2) M1) ?_
      refine RG.ite (fun h5 => RG.brT (q := 60) h5 rfl ?_) (fun h5 => RG.brF (q := 50) h5 rfl ?_)
      · refine RG.st 7 (congrFun (congrFun (congrFun b_X7_wins_7 v1) v2) M1) ?_
        refine RG.callL (fun w4 M3 h6 => RG.st 1 (run_callV (v := (some (.long w4))) rfl rfl rfl rfl rfl h6) ?_) (fun E M3 h6 => RG.fin rfl (Rend.run 1 (run_callVx rfl rfl rfl rfl rfl h6 rfl)))
        show RG C_X7_wins (74, [some (.ref 0), some (.int v1), some (.long v2), none], [.long w4], M3, 1) _ _
        exact RG.fin rfl (Rend.run 1 (congrFun (congrFun (congrFun (congrFun b_X7_wins_8 v1) v2) w4) M3))
      · exact RG.fin rfl (Rend.run 1 (congrFun (congrFun (congrFun b_X7_wins_9 v1) v2) M1))
def fn_X7_wins : Fn := fun av M => match av with
  | [.ref r0, .int v1, .long v2] => bif Nat.beq r0 0 then (d_X7_wins v1 v2 M) else (none)
  | _ => none
theorem cfg_X7_wins : CfgOK RX7 cX7_wins (C_X7_wins) 9 := ⟨tk_X7_wins, csF_nd, flk_X7, (List.forall_mem_cons.mpr ⟨Or.inr ⟨yX1_hasAll, cX1_hasAll, 3, (some .boolean), none, 1, ok_X1_hasAll, by decide, by decide, w_code_Sumsetry_Group_hasAll__J_Z, w_initialized_Sumsetry_Group, ⟨by decide, by decide⟩, Or.inr (Or.inr ⟨rfl, rfl, show (parseMethodDescriptor yX1_hasAll.desc).map (fun d => d.parameters.length + 1) = some 2 from by decide +kernel, w_methodLink_Sumsetry_88, w_instanceMethod_Sumsetry_Group_hasAll__J_Z, w_selects_Sumsetry_Group_hasAll__J_Z, ⟨_, rfl, rfl⟩⟩)⟩,
    List.forall_mem_cons.mpr ⟨Or.inr ⟨yX7_needRule, cX7_needRule, 2, none, none, 6, ok_X7_needRule, by decide, by decide, w_code_Sumsetry_needRule__I_V, w_initialized_Sumsetry, ⟨by decide, by decide⟩, Or.inr (Or.inr ⟨rfl, rfl, show (parseMethodDescriptor yX7_needRule.desc).map (fun d => d.parameters.length + 1) = some 2 from by decide +kernel, w_methodLink_Sumsetry_175, w_instanceMethod_Sumsetry_needRule__I_V, w_selects_Sumsetry_needRule__I_V, ⟨_, rfl, rfl⟩⟩)⟩,
    List.forall_mem_cons.mpr ⟨Or.inr ⟨yX4_hold, cX4_hold, 4, (some .boolean), none, 6, ok_X4_hold, by decide, by decide, w_code_Sumsetry_Rules_hold__LSumsetry_Group_JI_Z, w_initialized_Sumsetry_Rules, ⟨by decide, by decide⟩, Or.inl ⟨rfl, show (parseMethodDescriptor yX4_hold.desc).map (fun d => d.parameters.length) = some 3 from by decide +kernel, w_methodLink_Sumsetry_178, w_static_Sumsetry_Rules_hold__LSumsetry_Group_JI_Z⟩⟩,
    List.forall_mem_cons.mpr ⟨Or.inr ⟨yX0_winning, cX0_winning, 7, (some .long), none, 8, ok_X0_winning, by decide, by decide, w_code_Sumsetry_Game_winning__LSumsetry_Group_II_J, w_initialized_Sumsetry_Game, ⟨by decide, by decide⟩, Or.inr (Or.inr ⟨rfl, rfl, show (parseMethodDescriptor yX0_winning.desc).map (fun d => d.parameters.length + 1) = some 4 from by decide +kernel, w_methodLink_Sumsetry_203, w_instanceMethod_Sumsetry_Game_winning__LSumsetry_Group_II_J, w_selects_Sumsetry_Game_winning__LSumsetry_Group_II_J, ⟨_, rfl, rfl⟩⟩)⟩, fun _ h => absurd h List.not_mem_nil⟩⟩⟩⟩), ink_X7, lgk_X7, by decide +kernel, (fun h hh => absurd hh List.not_mem_nil)⟩
theorem ok_X7_wins : OkM csF yX7_wins (Cond.code yX7_wins cX7_wins 4 (some .long)) 9 2 fn_X7_wins :=
  OkM_of (own := RX7) (C := C_X7_wins) (by decide +kernel) rfl (cfg_X7_wins) rfl rfl rfl rfl (by
    intro av M o M' h
    unfold fn_X7_wins at h
    split at h
    · rename_i r0 v1 v2
      rcases bif_cs h with ⟨hb, h⟩ | ⟨-, h⟩
      · skip
        have hr0 := hb
        obtain rfl := Nat.eq_of_beq_eq_true hr0
        exact ⟨rfl, Nat.le_of_ble_eq_true rfl, (r_X7_wins v1 v2 M) (o, M') h⟩
      · cases h
    · cases h)
def t_X7_put : List (Nat × Instr × Nat) := [(0, .aload_n 0, 1), (1, .iload_n 1, 1), (2, .invokevirtual 76, 3), (5, .aload_n 0, 1), (6, .getfield 41, 3), (9, .getfield 207, 3), (12, .bipush 12, 2), (14, .if_icmp .lt 13, 3), (17, .new 198, 3), (20, .dup, 1), (21, .ldc 210, 2), (23, .invokespecial 202, 3), (26, .athrow, 1), (27, .aload_n 0, 1), (28, .getfield 41, 3), (31, .iload_n 1, 1), (32, .invokevirtual 212, 3), (35, .aload_n 0, 1), (36, .getfield 41, 3), (39, .getfield 207, 3), (42, .ireturn, 1)]
theorem tk_X7_put : ∀ x ∈ t_X7_put, decode cX7_put x.1 = .ok x.2 := by decide +kernel
def C_X7_put : Cfg := (t_X7_put, csF, fl_X7, [(76, 2, 5, 2, 1, fn_X7_needElement), (212, 2, 3, 2, 0, fn_X3_append)], in_X7, lg_X7, [(17, "java/lang/IllegalStateException", 198, 210, 202, "the row is full")], [], none, (some .int), 2)
set_option maxRecDepth 100000 in
theorem b_X7_put_0 : (fun (v1 : Int32) (M : Mem) => run C_X7_put 2 (0, [some (.ref 0), some (.int v1)], [], M, 0)) = (fun (v1 : Int32) (M : Mem) => some (.inl (2, [some (.ref 0), some (.int v1)], [.int v1, .ref 0], M, 0))) := by rfl
set_option maxRecDepth 100000 in
theorem b_X7_put_1 : (fun (v1 : Int32) (M1 : Mem) => run C_X7_put 5 (5, [some (.ref 0), some (.int v1)], [], M1, 1)) = (fun (v1 : Int32) (M1 : Mem) => some (.inl ((br (decide ((M1.1 14 2) < (12 : Int32))) 14 3 (13)), [some (.ref 0), some (.int v1)], [], M1, 1))) := by rfl
set_option maxRecDepth 100000 in
theorem b_X7_put_2 : (fun (v1 : Int32) (M1 : Mem) => run C_X7_put 8 (27, [some (.ref 0), some (.int v1)], [], M1, 1)) = (fun (v1 : Int32) (M1 : Mem) => some (.inr (.inl (some (.int (((d_X3_append v1) M1).1 14 2))), ((d_X3_append v1) M1), 1))) := by rfl
set_option maxRecDepth 100000 in
theorem b_X7_put_3 : (fun (v1 : Int32) (M1 : Mem) => run C_X7_put 1 (17, [some (.ref 0), some (.int v1)], [], M1, 1)) = (fun (v1 : Int32) (M1 : Mem) => some (.inr (.inr "java/lang/IllegalStateException", M1, 2))) := by rfl
def d_X7_put (v1 : Int32) (M : Mem) : Option (Res × Mem) := (onV (d_X7_needElement v1 M) (fun M1 => (if (M1.1 14 2) < (12 : Int32) then some (.inl (some (.int (((d_X3_append v1) M1).1 14 2))), ((d_X3_append v1) M1)) else some (.inr "java/lang/IllegalStateException", M1))) (fun r => some r))
set_option maxHeartbeats 2000000 in
theorem r_X7_put (v1 : Int32) (M : Mem) : RG C_X7_put (0, [some (.ref 0), some (.int v1)], [], M, 0) (d_X7_put v1 M) (fun r => .inr r) := by
  unfold d_X7_put
  refine RG.st 2 (congrFun (congrFun b_X7_put_0 v1) M) ?_
  refine RG.callV (fun M1 h1 => RG.st 1 (run_callV (v := none) rfl rfl rfl rfl rfl h1) ?_) (fun E M1 h1 => RG.fin rfl (Rend.run 1 (run_callVx rfl rfl rfl rfl rfl h1 rfl)))
  show RG C_X7_put (5, [some (.ref 0), some (.int v1)], [], M1, 1) _ _
  refine RG.st 5 (congrFun (congrFun b_X7_put_1 v1) M1) ?_
  refine RG.ite (fun h2 => RG.brT (q := 27) h2 rfl ?_) (fun h2 => RG.brF (q := 17) h2 rfl ?_)
  · exact RG.fin rfl (Rend.run 8 (congrFun (congrFun b_X7_put_2 v1) M1))
  · exact RG.fin rfl (Rend.run 1 (congrFun (congrFun b_X7_put_3 v1) M1))
def fn_X7_put : Fn := fun av M => match av with
  | [.ref r0, .int v1] => bif Nat.beq r0 0 then (d_X7_put v1 M) else (none)
  | _ => none
theorem cfg_X7_put : CfgOK RX7 cX7_put (C_X7_put) 7 := ⟨tk_X7_put, csF_nd, flk_X7, (List.forall_mem_cons.mpr ⟨Or.inr ⟨yX7_needElement, cX7_needElement, 2, none, none, 6, ok_X7_needElement, by decide, by decide, w_code_Sumsetry_needElement__I_V, w_initialized_Sumsetry, ⟨by decide, by decide⟩, Or.inr (Or.inr ⟨rfl, rfl, show (parseMethodDescriptor yX7_needElement.desc).map (fun d => d.parameters.length + 1) = some 2 from by decide +kernel, w_methodLink_Sumsetry_76, w_instanceMethod_Sumsetry_needElement__I_V, w_selects_Sumsetry_needElement__I_V, ⟨_, rfl, rfl⟩⟩)⟩,
    List.forall_mem_cons.mpr ⟨Or.inr ⟨yX3_append, cX3_append, 2, none, none, 2, ok_X3_append, by decide, by decide, w_code_Sumsetry_Row_append__I_V, w_initialized_Sumsetry_Row, ⟨by decide, by decide⟩, Or.inr (Or.inr ⟨rfl, rfl, show (parseMethodDescriptor yX3_append.desc).map (fun d => d.parameters.length + 1) = some 2 from by decide +kernel, w_methodLink_Sumsetry_212, w_instanceMethod_Sumsetry_Row_append__I_V, w_selects_Sumsetry_Row_append__I_V, ⟨_, rfl, rfl⟩⟩)⟩, fun _ h => absurd h List.not_mem_nil⟩⟩), ink_X7, lgk_X7, by decide +kernel, (fun h hh => absurd hh List.not_mem_nil)⟩
theorem ok_X7_put : OkM csF yX7_put (Cond.code yX7_put cX7_put 2 (some .int)) 7 2 fn_X7_put :=
  OkM_of (own := RX7) (C := C_X7_put) (by decide +kernel) rfl (cfg_X7_put) rfl rfl rfl rfl (by
    intro av M o M' h
    unfold fn_X7_put at h
    split at h
    · rename_i r0 v1
      rcases bif_cs h with ⟨hb, h⟩ | ⟨-, h⟩
      · skip
        have hr0 := hb
        obtain rfl := Nat.eq_of_beq_eq_true hr0
        exact ⟨rfl, Nat.le_of_ble_eq_true rfl, (r_X7_put v1 M) (o, M') h⟩
      · cases h
    · cases h)
