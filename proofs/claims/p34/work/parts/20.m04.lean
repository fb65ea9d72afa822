/-! methods: X1_unlikeSumOf, X1_waysTo, X1_waysAsDifference, X1_unmoved, X1_orderOf, X1_zeroConstant, X2_lineUp, X2_lastLow, X2_sumOf -/
def t_X1_unlikeSumOf : List (Nat × Instr × Nat) := [(0, .lconst 0, 1), (1, .lstore 5, 2), (3, .iconst 0, 1), (4, .istore 7, 2), (6, .iload 7, 2), (8, .aload_n 0, 1), (9, .getfield 26, 3), (12, .if_icmp .ge 40, 3), (15, .lload_n 3, 1), (16, .iload 7, 2), (18, .invokestatic 63, 3), (21, .ifCond .eq 25, 3), (24, .lload 5, 2), (26, .aload_n 0, 1), (27, .lload_n 1, 1), (28, .iload 7, 2), (30, .invokestatic 29, 3), (33, .ldc2_w 51, 3), (36, .lxor, 1), (37, .land, 1), (38, .iload 7, 2), (40, .invokevirtual 84, 3), (43, .lor, 1), (44, .lstore 5, 2), (46, .iinc 7 1, 3), (49, .goto (-43), 3), (52, .lload 5, 2), (54, .lreturn, 1)]
theorem tk_X1_unlikeSumOf : ∀ x ∈ t_X1_unlikeSumOf, decode cX1_unlikeSumOf x.1 = .ok x.2 := by decide +kernel
def C_X1_unlikeSumOf : Cfg := (t_X1_unlikeSumOf, csF, fl_X1, [(29, 1, 5, 1, 0, fn_X7_bit), (63, 1, 5, 2, 0, fn_X7_has), (84, 2, 1, 3, 0, fn_X1_shifted)], in_X1, lg_X1, [], [], none, (some .long), 0)
set_option maxRecDepth 100000 in
theorem b_X1_unlikeSumOf_0 : (fun (v1 : Int64) (v3 : Int64) (M : Mem) => run C_X1_unlikeSumOf 4 (0, [some (.ref 2), some (.long v1), none, some (.long v3), none, none, none, none], [], M, 0)) = (fun (v1 : Int64) (v3 : Int64) (M : Mem) => some (.inl (6, [some (.ref 2), some (.long v1), none, some (.long v3), none, some (.long (0 : Int64)), none, some (.int (0 : Int32))], [], M, 0))) := by rfl
set_option maxRecDepth 100000 in
theorem b_X1_unlikeSumOf_1 : (fun (v1 : Int64) (v3 : Int64) (M : Mem) (a1 : (Int64 × Int32)) => run C_X1_unlikeSumOf 4 (6, [some (.ref 2), some (.long v1), none, some (.long v3), none, some (.long a1.1), none, some (.int a1.2)], [], M, 0)) = (fun (v1 : Int64) (v3 : Int64) (M : Mem) (a1 : (Int64 × Int32)) => some (.inl ((br (!decide (a1.2 < (M.1 2 2))) 12 3 (40)), [some (.ref 2), some (.long v1), none, some (.long v3), none, some (.long a1.1), none, some (.int a1.2)], [], M, 0))) := by rfl
set_option maxRecDepth 100000 in
theorem b_X1_unlikeSumOf_2 : (fun (v1 : Int64) (v3 : Int64) (M : Mem) (a1 : (Int64 × Int32)) => run C_X1_unlikeSumOf 4 (15, [some (.ref 2), some (.long v1), none, some (.long v3), none, some (.long a1.1), none, some (.int a1.2)], [], M, 0)) = (fun (v1 : Int64) (v3 : Int64) (M : Mem) (a1 : (Int64 × Int32)) => some (.inl ((br (decide ((d_X7_has v3 a1.2) = 0)) 21 3 (25)), [some (.ref 2), some (.long v1), none, some (.long v3), none, some (.long a1.1), none, some (.int a1.2)], [], M, 0))) := by rfl
set_option maxRecDepth 100000 in
theorem b_X1_unlikeSumOf_3 : (fun (v1 : Int64) (v3 : Int64) (M : Mem) (a1 : (Int64 × Int32)) => run C_X1_unlikeSumOf 12 (24, [some (.ref 2), some (.long v1), none, some (.long v3), none, some (.long a1.1), none, some (.int a1.2)], [], M, 0)) = (fun (v1 : Int64) (v3 : Int64) (M : Mem) (a1 : (Int64 × Int32)) => some (.inl (46, [some (.ref 2), some (.long v1), none, some (.long v3), none, some (.long (a1.1 ||| (d_X1_shifted (v1 &&& ((d_X7_bit a1.2) ^^^ (-1 : Int64))) a1.2 M))), none, some (.int a1.2)], [], M, 0))) := by rfl
theorem m_X1_unlikeSumOf_0 (v1 : Int64) (v3 : Int64) (M : Mem) (a1 : (Int64 × Int32)) : Rto C_X1_unlikeSumOf (15, [some (.ref 2), some (.long v1), none, some (.long v3), none, some (.long a1.1), none, some (.int a1.2)], [], M, 0) (46, [some (.ref 2), some (.long v1), none, some (.long v3), none, some (.long (if (d_X7_has v3 a1.2) = 0 then a1.1 else (a1.1 ||| (d_X1_shifted (v1 &&& ((d_X7_bit a1.2) ^^^ (-1 : Int64))) a1.2 M)))), none, some (.int a1.2)], [], M, 0) := by
  refine Rto.trans (Rto.run 4 (congrFun (congrFun (congrFun (congrFun b_X1_unlikeSumOf_2 v1) v3) M) a1)) ?_
  by_cases h : (d_X7_has v3 a1.2) = 0
  · refine Rto.trans (Rto.brT (q := 46) h rfl) ?_
    exact Rto.eq (by first | (simp only [if_pos h]; done) | rfl | exact absurd rfl h | (simp; done))
  · refine Rto.trans (Rto.brF (q := 24) h rfl) ?_
    refine Rto.trans (Rto.run 12 (congrFun (congrFun (congrFun (congrFun b_X1_unlikeSumOf_3 v1) v3) M) a1)) ?_
    exact Rto.eq (by first | (simp only [if_neg h]; done) | rfl | exact absurd rfl h | (simp; done))
set_option maxRecDepth 100000 in
theorem b_X1_unlikeSumOf_4 : (fun (v1 : Int64) (v3 : Int64) (M : Mem) (a1 : (Int64 × Int32)) => run C_X1_unlikeSumOf 2 (46, [some (.ref 2), some (.long v1), none, some (.long v3), none, some (.long (if (d_X7_has v3 a1.2) = 0 then a1.1 else (a1.1 ||| (d_X1_shifted (v1 &&& ((d_X7_bit a1.2) ^^^ (-1 : Int64))) a1.2 M)))), none, some (.int a1.2)], [], M, 0)) = (fun (v1 : Int64) (v3 : Int64) (M : Mem) (a1 : (Int64 × Int32)) => some (.inl (6, [some (.ref 2), some (.long v1), none, some (.long v3), none, some (.long (if (d_X7_has v3 a1.2) = 0 then a1.1 else (a1.1 ||| (d_X1_shifted (v1 &&& ((d_X7_bit a1.2) ^^^ (-1 : Int64))) a1.2 M)))), none, some (.int (a1.2 + (1 : Int32)))], [], M, 0))) := by rfl
def g_X1_unlikeSumOf_1 (v1 : Int64) (v3 : Int64) (M : Mem) : Int64 × Int32 → Option ((Int64 × Int32) ⊕ ((Int64 × Int32) ⊕ Int64)) := fun (a1 : Int64 × Int32) => (if a1.2 < (M.1 2 2) then some (.inl ((if (d_X7_has v3 a1.2) = 0 then a1.1 else (a1.1 ||| (d_X1_shifted (v1 &&& ((d_X7_bit a1.2) ^^^ (-1 : Int64))) a1.2 M))), (a1.2 + (1 : Int32)))) else some (.inr (.inl (a1.1, a1.2))))
set_option maxHeartbeats 2000000 in
theorem l_X1_unlikeSumOf_1 (v1 : Int64) (v3 : Int64) (M : Mem) : ∀ a1 : Int64 × Int32, RG C_X1_unlikeSumOf ((fun (a1 : Int64 × Int32) => (6, [some (.ref 2), some (.long v1), none, some (.long v3), none, some (.long a1.1), none, some (.int a1.2)], [], M, 0)) a1) (g_X1_unlikeSumOf_1 v1 v3 M a1) (lpP (fun (a1 : Int64 × Int32) => (6, [some (.ref 2), some (.long v1), none, some (.long v3), none, some (.long a1.1), none, some (.int a1.2)], [], M, 0)) (fun (a1 : Int64 × Int32) => (52, [some (.ref 2), some (.long v1), none, some (.long v3), none, some (.long a1.1), none, some (.int a1.2)], [], M, 0)) (fun (v : Int64) => (.inl (some (.long v)), M))) := by
  intro a1
  unfold g_X1_unlikeSumOf_1
  show RG C_X1_unlikeSumOf (6, [some (.ref 2), some (.long v1), none, some (.long v3), none, some (.long a1.1), none, some (.int a1.2)], [], M, 0) _ _
  refine RG.st 4 (congrFun (congrFun (congrFun (congrFun b_X1_unlikeSumOf_1 v1) v3) M) a1) ?_
  refine RG.ite (fun h1 => RG.brNF (q := 15) h1 rfl ?_) (fun h1 => RG.brNT (q := 52) h1 rfl ?_)
  · refine RG.step (m_X1_unlikeSumOf_0 v1 v3 M a1) ?_
    refine RG.st 2 (congrFun (congrFun (congrFun (congrFun b_X1_unlikeSumOf_4 v1) v3) M) a1) ?_
    exact RG.to rfl (Rto.refl _)
  · exact RG.to rfl (Rto.refl _)
set_option maxRecDepth 100000 in
theorem b_X1_unlikeSumOf_5 : (fun (v1 : Int64) (v3 : Int64) (M : Mem) (a2 : (Int64 × Int32)) => run C_X1_unlikeSumOf 2 (52, [some (.ref 2), some (.long v1), none, some (.long v3), none, some (.long a2.1), none, some (.int a2.2)], [], M, 0)) = (fun (v1 : Int64) (v3 : Int64) (M : Mem) (a2 : (Int64 × Int32)) => some (.inr (.inl (some (.long a2.1)), M, 0))) := by rfl
def d_X1_unlikeSumOf (v1 : Int64) (v3 : Int64) (M : Mem) : Option Int64 := (onIt (iter (g_X1_unlikeSumOf_1 v1 v3 M) 20000 ((0 : Int64), (0 : Int32))) (fun (a2 : Int64 × Int32) => some a2.1) (fun r => some r))
set_option maxHeartbeats 2000000 in
theorem r_X1_unlikeSumOf (v1 : Int64) (v3 : Int64) (M : Mem) : RG C_X1_unlikeSumOf (0, [some (.ref 2), some (.long v1), none, some (.long v3), none, none, none, none], [], M, 0) (d_X1_unlikeSumOf v1 v3 M) (fun v => .inr (.inl (some (.long v)), M)) := by
  unfold d_X1_unlikeSumOf
  refine RG.st 4 (congrFun (congrFun (congrFun b_X1_unlikeSumOf_0 v1) v3) M) ?_
  refine RG.loop (hd := (fun (a1 : Int64 × Int32) => (6, [some (.ref 2), some (.long v1), none, some (.long v3), none, some (.long a1.1), none, some (.int a1.2)], [], M, 0))) (ex := (fun (a1 : Int64 × Int32) => (52, [some (.ref 2), some (.long v1), none, some (.long v3), none, some (.long a1.1), none, some (.int a1.2)], [], M, 0))) (rt := (fun (v : Int64) => (.inl (some (.long v)), M))) (l_X1_unlikeSumOf_1 v1 v3 M) (fun a2 => ?_) (fun r v h => by cases h; rfl)
  show RG C_X1_unlikeSumOf (52, [some (.ref 2), some (.long v1), none, some (.long v3), none, some (.long a2.1), none, some (.int a2.2)], [], M, 0) _ _
  exact RG.fin rfl (Rend.run 2 (congrFun (congrFun (congrFun (congrFun b_X1_unlikeSumOf_5 v1) v3) M) a2))
def fn_X1_unlikeSumOf : Fn := fun av M => match av with
  | [.ref r0, .long v1, .long v3] => bif Nat.beq r0 2 then (d_X1_unlikeSumOf v1 v3 M).bind fun v => some (.inl (some (.long v)), M) else (none)
  | _ => none
theorem cfg_X1_unlikeSumOf : CfgOK RX1 cX1_unlikeSumOf (C_X1_unlikeSumOf) 3 := ⟨tk_X1_unlikeSumOf, csF_nd, flk_X1, (List.forall_mem_cons.mpr ⟨Or.inr ⟨yX7_bit, cX7_bit, 1, (some .long), none, 1, ok_X7_bit, by decide, by decide, w_code_Sumsetry_bit__I_J, w_initialized_Sumsetry, ⟨by decide, by decide⟩, Or.inr (Or.inl ⟨rfl, rfl, show (parseMethodDescriptor yX7_bit.desc).map (fun d => d.parameters.length) = some 1 from by decide +kernel, ⟨"Sumsetry", by decide +kernel⟩, w_static_Sumsetry_bit__I_J⟩)⟩,
    List.forall_mem_cons.mpr ⟨Or.inr ⟨yX7_has, cX7_has, 3, (some .boolean), none, 1, ok_X7_has, by decide, by decide, w_code_Sumsetry_has__JI_Z, w_initialized_Sumsetry, ⟨by decide, by decide⟩, Or.inr (Or.inl ⟨rfl, rfl, show (parseMethodDescriptor yX7_has.desc).map (fun d => d.parameters.length) = some 2 from by decide +kernel, ⟨"Sumsetry", by decide +kernel⟩, w_static_Sumsetry_has__JI_Z⟩)⟩,
    List.forall_mem_cons.mpr ⟨Or.inr ⟨yX1_shifted, cX1_shifted, 10, (some .long), none, 2, ok_X1_shifted, by decide, by decide, w_code_Sumsetry_Group_shifted__JI_J, w_initialized_Sumsetry_Group, ⟨by decide, by decide⟩, Or.inr (Or.inr ⟨rfl, rfl, show (parseMethodDescriptor yX1_shifted.desc).map (fun d => d.parameters.length + 1) = some 3 from by decide +kernel, w_methodLink_Sumsetry_Group_84, w_instanceMethod_Sumsetry_Group_shifted__JI_J, w_selects_Sumsetry_Group_shifted__JI_J, ⟨_, rfl, rfl⟩⟩)⟩, fun _ h => absurd h List.not_mem_nil⟩⟩⟩), ink_X1, lgk_X1, fun e h => absurd h List.not_mem_nil, (fun h hh => absurd hh List.not_mem_nil)⟩
theorem ok_X1_unlikeSumOf : OkM csF yX1_unlikeSumOf (Cond.code yX1_unlikeSumOf cX1_unlikeSumOf 8 (some .long)) 3 0 fn_X1_unlikeSumOf :=
  OkM_of (own := RX1) (C := C_X1_unlikeSumOf) (by decide +kernel) rfl (cfg_X1_unlikeSumOf) rfl rfl rfl rfl (by
    intro av M o M' h
    unfold fn_X1_unlikeSumOf at h
    split at h
    · rename_i r0 v1 v3
      rcases bif_cs h with ⟨hb, h⟩ | ⟨-, h⟩
      · skip
        have hr0 := hb
        obtain rfl := Nat.eq_of_beq_eq_true hr0
        obtain ⟨w, hw, h⟩ := bind_cs h
        cases h
        exact ⟨rfl, Nat.le_of_ble_eq_true rfl, (r_X1_unlikeSumOf v1 v3 M) w hw⟩
      · cases h
    · cases h)
def t_X1_waysTo : List (Nat × Instr × Nat) := [(0, .lload_n 2, 1), (1, .aload_n 0, 1), (2, .aload_n 0, 1), (3, .lload 4, 2), (5, .invokevirtual 88, 3), (8, .iload_n 1, 1), (9, .invokevirtual 84, 3), (12, .land, 1), (13, .invokestatic 67, 3), (16, .ireturn, 1)]
theorem tk_X1_waysTo : ∀ x ∈ t_X1_waysTo, decode cX1_waysTo x.1 = .ok x.2 := by decide +kernel
def C_X1_waysTo : Cfg := (t_X1_waysTo, csF, fl_X1, [(67, 0, 0, 1, 0, fn_J13_bitCount_95d88), (84, 2, 1, 3, 0, fn_X1_shifted), (88, 2, 1, 2, 0, fn_X1_mirrored)], in_X1, lg_X1, [], [], none, (some .int), 0)
set_option maxRecDepth 100000 in
theorem b_X1_waysTo_0 : (fun (v1 : Int32) (v2 : Int64) (v4 : Int64) (M : Mem) => run C_X1_waysTo 4 (0, [some (.ref 2), some (.int v1), some (.long v2), none, some (.long v4), none], [], M, 0)) = (fun (v1 : Int32) (v2 : Int64) (v4 : Int64) (M : Mem) => some (.inl (5, [some (.ref 2), some (.int v1), some (.long v2), none, some (.long v4), none], [.long v4, .ref 2, .ref 2, .long v2], M, 0))) := by rfl
set_option maxRecDepth 100000 in
theorem b_X1_waysTo_1 : (fun (v1 : Int32) (v2 : Int64) (v4 : Int64) (M : Mem) (w1 : Int64) => run C_X1_waysTo 5 (8, [some (.ref 2), some (.int v1), some (.long v2), none, some (.long v4), none], [.long w1, .ref 2, .long v2], M, 0)) = (fun (v1 : Int32) (v2 : Int64) (v4 : Int64) (M : Mem) (w1 : Int64) => some (.inr (.inl (some (.int (d_J13_bitCount_95d88 (v2 &&& (d_X1_shifted w1 v1 M))))), M, 0))) := by rfl
def d_X1_waysTo (v1 : Int32) (v2 : Int64) (v4 : Int64) (M : Mem) : Option Int32 := ((d_X1_mirrored v4 M).bind fun w1 => some (d_J13_bitCount_95d88 (v2 &&& (d_X1_shifted w1 v1 M))))
set_option maxHeartbeats 2000000 in
theorem r_X1_waysTo (v1 : Int32) (v2 : Int64) (v4 : Int64) (M : Mem) : RG C_X1_waysTo (0, [some (.ref 2), some (.int v1), some (.long v2), none, some (.long v4), none], [], M, 0) (d_X1_waysTo v1 v2 v4 M) (fun v => .inr (.inl (some (.int v)), M)) := by
  unfold d_X1_waysTo
  refine RG.st 4 (congrFun (congrFun (congrFun (congrFun b_X1_waysTo_0 v1) v2) v4) M) ?_
  refine RG.bind (fun w1 h1 => RG.st 1 (run_callV (v := some (.long w1)) rfl rfl rfl rfl rfl (bindL h1)) ?_)
  show RG C_X1_waysTo (8, [some (.ref 2), some (.int v1), some (.long v2), none, some (.long v4), none], [.long w1, .ref 2, .long v2], M, 0) _ _
  exact RG.fin rfl (Rend.run 5 (congrFun (congrFun (congrFun (congrFun (congrFun b_X1_waysTo_1 v1) v2) v4) M) w1))
def fn_X1_waysTo : Fn := fun av M => match av with
  | [.ref r0, .int v1, .long v2, .long v4] => bif Nat.beq r0 2 then (d_X1_waysTo v1 v2 v4 M).bind fun v => some (.inl (some (.int v)), M) else (none)
  | _ => none
theorem cfg_X1_waysTo : CfgOK RX1 cX1_waysTo (C_X1_waysTo) 5 := ⟨tk_X1_waysTo, csF_nd, flk_X1, (List.forall_mem_cons.mpr ⟨Or.inr ⟨yJ13_bitCount_95d88, cJ13_bitCount_95d88, 2, (some .int), none, 1, ok_J13_bitCount_95d88, by decide, by decide, w_code_java_lang_Long_bitCount__J_I, w_initialized_java_lang_Long, ⟨by decide, by decide⟩, Or.inl ⟨rfl, show (parseMethodDescriptor yJ13_bitCount_95d88.desc).map (fun d => d.parameters.length) = some 1 from by decide +kernel, w_methodLink_Sumsetry_Group_67, w_static_java_lang_Long_bitCount__J_I⟩⟩,
    List.forall_mem_cons.mpr ⟨Or.inr ⟨yX1_shifted, cX1_shifted, 10, (some .long), none, 2, ok_X1_shifted, by decide, by decide, w_code_Sumsetry_Group_shifted__JI_J, w_initialized_Sumsetry_Group, ⟨by decide, by decide⟩, Or.inr (Or.inr ⟨rfl, rfl, show (parseMethodDescriptor yX1_shifted.desc).map (fun d => d.parameters.length + 1) = some 3 from by decide +kernel, w_methodLink_Sumsetry_Group_84, w_instanceMethod_Sumsetry_Group_shifted__JI_J, w_selects_Sumsetry_Group_shifted__JI_J, ⟨_, rfl, rfl⟩⟩)⟩,
    List.forall_mem_cons.mpr ⟨Or.inr ⟨yX1_mirrored, cX1_mirrored, 8, (some .long), none, 4, ok_X1_mirrored, by decide, by decide, w_code_Sumsetry_Group_mirrored__J_J, w_initialized_Sumsetry_Group, ⟨by decide, by decide⟩, Or.inr (Or.inr ⟨rfl, rfl, show (parseMethodDescriptor yX1_mirrored.desc).map (fun d => d.parameters.length + 1) = some 2 from by decide +kernel, w_methodLink_Sumsetry_Group_88, w_instanceMethod_Sumsetry_Group_mirrored__J_J, w_selects_Sumsetry_Group_mirrored__J_J, ⟨_, rfl, rfl⟩⟩)⟩, fun _ h => absurd h List.not_mem_nil⟩⟩⟩), ink_X1, lgk_X1, fun e h => absurd h List.not_mem_nil, (fun h hh => absurd hh List.not_mem_nil)⟩
theorem ok_X1_waysTo : OkM csF yX1_waysTo (Cond.code yX1_waysTo cX1_waysTo 6 (some .int)) 5 0 fn_X1_waysTo :=
  OkM_of (own := RX1) (C := C_X1_waysTo) (by decide +kernel) rfl (cfg_X1_waysTo) rfl rfl rfl rfl (by
    intro av M o M' h
    unfold fn_X1_waysTo at h
    split at h
    · rename_i r0 v1 v2 v4
      rcases bif_cs h with ⟨hb, h⟩ | ⟨-, h⟩
      · skip
        have hr0 := hb
        obtain rfl := Nat.eq_of_beq_eq_true hr0
        obtain ⟨w, hw, h⟩ := bind_cs h
        cases h
        exact ⟨rfl, Nat.le_of_ble_eq_true rfl, (r_X1_waysTo v1 v2 v4 M) w hw⟩
      · cases h
    · cases h)
def t_X1_waysAsDifference : List (Nat × Instr × Nat) := [(0, .lload_n 2, 1), (1, .aload_n 0, 1), (2, .lload_n 2, 1), (3, .iload_n 1, 1), (4, .invokevirtual 84, 3), (7, .land, 1), (8, .invokestatic 67, 3), (11, .ireturn, 1)]
theorem tk_X1_waysAsDifference : ∀ x ∈ t_X1_waysAsDifference, decode cX1_waysAsDifference x.1 = .ok x.2 := by decide +kernel
def C_X1_waysAsDifference : Cfg := (t_X1_waysAsDifference, csF, fl_X1, [(67, 0, 0, 1, 0, fn_J13_bitCount_95d88), (84, 2, 1, 3, 0, fn_X1_shifted)], in_X1, lg_X1, [], [], none, (some .int), 0)
set_option maxRecDepth 100000 in
theorem b_X1_waysAsDifference_0 : (fun (v1 : Int32) (v2 : Int64) (M : Mem) => run C_X1_waysAsDifference 8 (0, [some (.ref 2), some (.int v1), some (.long v2), none], [], M, 0)) = (fun (v1 : Int32) (v2 : Int64) (M : Mem) => some (.inr (.inl (some (.int (d_J13_bitCount_95d88 (v2 &&& (d_X1_shifted v2 v1 M))))), M, 0))) := by rfl
def d_X1_waysAsDifference (v1 : Int32) (v2 : Int64) (M : Mem) : Int32 := (d_J13_bitCount_95d88 (v2 &&& (d_X1_shifted v2 v1 M)))
set_option maxHeartbeats 2000000 in
theorem r_X1_waysAsDifference (v1 : Int32) (v2 : Int64) (M : Mem) : RG C_X1_waysAsDifference (0, [some (.ref 2), some (.int v1), some (.long v2), none], [], M, 0) (some (d_X1_waysAsDifference v1 v2 M)) (fun v => .inr (.inl (some (.int v)), M)) := by
  unfold d_X1_waysAsDifference
  exact RG.fin rfl (Rend.run 8 (congrFun (congrFun (congrFun b_X1_waysAsDifference_0 v1) v2) M))
def fn_X1_waysAsDifference : Fn := fun av M => match av with
  | [.ref r0, .int v1, .long v2] => bif Nat.beq r0 2 then some (.inl (some (.int (d_X1_waysAsDifference v1 v2 M))), M) else (none)
  | _ => none
theorem cfg_X1_waysAsDifference : CfgOK RX1 cX1_waysAsDifference (C_X1_waysAsDifference) 3 := ⟨tk_X1_waysAsDifference, csF_nd, flk_X1, (List.forall_mem_cons.mpr ⟨Or.inr ⟨yJ13_bitCount_95d88, cJ13_bitCount_95d88, 2, (some .int), none, 1, ok_J13_bitCount_95d88, by decide, by decide, w_code_java_lang_Long_bitCount__J_I, w_initialized_java_lang_Long, ⟨by decide, by decide⟩, Or.inl ⟨rfl, show (parseMethodDescriptor yJ13_bitCount_95d88.desc).map (fun d => d.parameters.length) = some 1 from by decide +kernel, w_methodLink_Sumsetry_Group_67, w_static_java_lang_Long_bitCount__J_I⟩⟩,
    List.forall_mem_cons.mpr ⟨Or.inr ⟨yX1_shifted, cX1_shifted, 10, (some .long), none, 2, ok_X1_shifted, by decide, by decide, w_code_Sumsetry_Group_shifted__JI_J, w_initialized_Sumsetry_Group, ⟨by decide, by decide⟩, Or.inr (Or.inr ⟨rfl, rfl, show (parseMethodDescriptor yX1_shifted.desc).map (fun d => d.parameters.length + 1) = some 3 from by decide +kernel, w_methodLink_Sumsetry_Group_84, w_instanceMethod_Sumsetry_Group_shifted__JI_J, w_selects_Sumsetry_Group_shifted__JI_J, ⟨_, rfl, rfl⟩⟩)⟩, fun _ h => absurd h List.not_mem_nil⟩⟩), ink_X1, lgk_X1, fun e h => absurd h List.not_mem_nil, (fun h hh => absurd hh List.not_mem_nil)⟩
theorem ok_X1_waysAsDifference : OkM csF yX1_waysAsDifference (Cond.code yX1_waysAsDifference cX1_waysAsDifference 4 (some .int)) 3 0 fn_X1_waysAsDifference :=
  OkM_of (own := RX1) (C := C_X1_waysAsDifference) (by decide +kernel) rfl (cfg_X1_waysAsDifference) rfl rfl rfl rfl (by
    intro av M o M' h
    unfold fn_X1_waysAsDifference at h
    split at h
    · rename_i r0 v1 v2
      rcases bif_cs h with ⟨hb, h⟩ | ⟨-, h⟩
      · skip
        have hr0 := hb
        obtain rfl := Nat.eq_of_beq_eq_true hr0
        cases h
        exact ⟨rfl, Nat.le_of_ble_eq_true rfl, (r_X1_waysAsDifference v1 v2 M) _ rfl⟩
      · cases h
    · cases h)
def t_X1_unmoved : List (Nat × Instr × Nat) := [(0, .lconst 0, 1), (1, .lstore_n 3, 1), (2, .iconst 0, 1), (3, .istore 5, 2), (5, .iload 5, 2), (7, .aload_n 0, 1), (8, .getfield 26, 3), (11, .if_icmp .ge 29, 3), (14, .aload_n 0, 1), (15, .lload_n 1, 1), (16, .iload 5, 2), (18, .invokevirtual 84, 3), (21, .lload_n 1, 1), (22, .lcmp, 1), (23, .ifCond .ne 11, 3), (26, .lload_n 3, 1), (27, .iload 5, 2), (29, .invokestatic 29, 3), (32, .lor, 1), (33, .lstore_n 3, 1), (34, .iinc 5 1, 3), (37, .goto (-32), 3), (40, .lload_n 3, 1), (41, .lreturn, 1)]
theorem tk_X1_unmoved : ∀ x ∈ t_X1_unmoved, decode cX1_unmoved x.1 = .ok x.2 := by decide +kernel
def C_X1_unmoved : Cfg := (t_X1_unmoved, csF, fl_X1, [(29, 1, 5, 1, 0, fn_X7_bit), (84, 2, 1, 3, 0, fn_X1_shifted)], in_X1, lg_X1, [], [], none, (some .long), 0)
set_option maxRecDepth 100000 in
theorem b_X1_unmoved_0 : (fun (v1 : Int64) (M : Mem) => run C_X1_unmoved 4 (0, [some (.ref 2), some (.long v1), none, none, none, none], [], M, 0)) = (fun (v1 : Int64) (M : Mem) => some (.inl (5, [some (.ref 2), some (.long v1), none, some (.long (0 : Int64)), none, some (.int (0 : Int32))], [], M, 0))) := by rfl
set_option maxRecDepth 100000 in
theorem b_X1_unmoved_1 : (fun (v1 : Int64) (M : Mem) (a1 : (Int64 × Int32)) => run C_X1_unmoved 4 (5, [some (.ref 2), some (.long v1), none, some (.long a1.1), none, some (.int a1.2)], [], M, 0)) = (fun (v1 : Int64) (M : Mem) (a1 : (Int64 × Int32)) => some (.inl ((br (!decide (a1.2 < (M.1 2 2))) 11 3 (29)), [some (.ref 2), some (.long v1), none, some (.long a1.1), none, some (.int a1.2)], [], M, 0))) := by rfl
set_option maxRecDepth 100000 in
theorem b_X1_unmoved_2 : (fun (v1 : Int64) (M : Mem) (a1 : (Int64 × Int32)) => run C_X1_unmoved 7 (14, [some (.ref 2), some (.long v1), none, some (.long a1.1), none, some (.int a1.2)], [], M, 0)) = (fun (v1 : Int64) (M : Mem) (a1 : (Int64 × Int32)) => some (.inl ((br (!decide ((lg_cmp (d_X1_shifted v1 a1.2 M) v1) = 0)) 23 3 (11)), [some (.ref 2), some (.long v1), none, some (.long a1.1), none, some (.int a1.2)], [], M, 0))) := by rfl
set_option maxRecDepth 100000 in
theorem b_X1_unmoved_3 : (fun (v1 : Int64) (M : Mem) (a1 : (Int64 × Int32)) => run C_X1_unmoved 5 (26, [some (.ref 2), some (.long v1), none, some (.long a1.1), none, some (.int a1.2)], [], M, 0)) = (fun (v1 : Int64) (M : Mem) (a1 : (Int64 × Int32)) => some (.inl (34, [some (.ref 2), some (.long v1), none, some (.long (a1.1 ||| (d_X7_bit a1.2))), none, some (.int a1.2)], [], M, 0))) := by rfl
theorem m_X1_unmoved_0 (v1 : Int64) (M : Mem) (a1 : (Int64 × Int32)) : Rto C_X1_unmoved (14, [some (.ref 2), some (.long v1), none, some (.long a1.1), none, some (.int a1.2)], [], M, 0) (34, [some (.ref 2), some (.long v1), none, some (.long (if (lg_cmp (d_X1_shifted v1 a1.2 M) v1) = 0 then (a1.1 ||| (d_X7_bit a1.2)) else a1.1)), none, some (.int a1.2)], [], M, 0) := by
  refine Rto.trans (Rto.run 7 (congrFun (congrFun (congrFun b_X1_unmoved_2 v1) M) a1)) ?_
  by_cases h : (lg_cmp (d_X1_shifted v1 a1.2 M) v1) = 0
  · refine Rto.trans (Rto.brNF (q := 26) h rfl) ?_
    refine Rto.trans (Rto.run 5 (congrFun (congrFun (congrFun b_X1_unmoved_3 v1) M) a1)) ?_
    exact Rto.eq (by first | (simp only [if_pos h]; done) | rfl | exact absurd rfl h | (simp; done))
  · refine Rto.trans (Rto.brNT (q := 34) h rfl) ?_
    exact Rto.eq (by first | (simp only [if_neg h]; done) | rfl | exact absurd rfl h | (simp; done))
set_option maxRecDepth 100000 in
theorem b_X1_unmoved_4 : (fun (v1 : Int64) (M : Mem) (a1 : (Int64 × Int32)) => run C_X1_unmoved 2 (34, [some (.ref 2), some (.long v1), none, some (.long (if (lg_cmp (d_X1_shifted v1 a1.2 M) v1) = 0 then (a1.1 ||| (d_X7_bit a1.2)) else a1.1)), none, some (.int a1.2)], [], M, 0)) = (fun (v1 : Int64) (M : Mem) (a1 : (Int64 × Int32)) => some (.inl (5, [some (.ref 2), some (.long v1), none, some (.long (if (lg_cmp (d_X1_shifted v1 a1.2 M) v1) = 0 then (a1.1 ||| (d_X7_bit a1.2)) else a1.1)), none, some (.int (a1.2 + (1 : Int32)))], [], M, 0))) := by rfl
def g_X1_unmoved_1 (v1 : Int64) (M : Mem) : Int64 × Int32 → Option ((Int64 × Int32) ⊕ ((Int64 × Int32) ⊕ Int64)) := fun (a1 : Int64 × Int32) => (if a1.2 < (M.1 2 2) then some (.inl ((if (lg_cmp (d_X1_shifted v1 a1.2 M) v1) = 0 then (a1.1 ||| (d_X7_bit a1.2)) else a1.1), (a1.2 + (1 : Int32)))) else some (.inr (.inl (a1.1, a1.2))))
set_option maxHeartbeats 2000000 in
theorem l_X1_unmoved_1 (v1 : Int64) (M : Mem) : ∀ a1 : Int64 × Int32, RG C_X1_unmoved ((fun (a1 : Int64 × Int32) => (5, [some (.ref 2), some (.long v1), none, some (.long a1.1), none, some (.int a1.2)], [], M, 0)) a1) (g_X1_unmoved_1 v1 M a1) (lpP (fun (a1 : Int64 × Int32) => (5, [some (.ref 2), some (.long v1), none, some (.long a1.1), none, some (.int a1.2)], [], M, 0)) (fun (a1 : Int64 × Int32) => (40, [some (.ref 2), some (.long v1), none, some (.long a1.1), none, some (.int a1.2)], [], M, 0)) (fun (v : Int64) => (.inl (some (.long v)), M))) := by
  intro a1
  unfold g_X1_unmoved_1
  show RG C_X1_unmoved (5, [some (.ref 2), some (.long v1), none, some (.long a1.1), none, some (.int a1.2)], [], M, 0) _ _
  refine RG.st 4 (congrFun (congrFun (congrFun b_X1_unmoved_1 v1) M) a1) ?_
  refine RG.ite (fun h1 => RG.brNF (q := 14) h1 rfl ?_) (fun h1 => RG.brNT (q := 40) h1 rfl ?_)
  · refine RG.step (m_X1_unmoved_0 v1 M a1) ?_
    refine RG.st 2 (congrFun (congrFun (congrFun b_X1_unmoved_4 v1) M) a1) ?_
    exact RG.to rfl (Rto.refl _)
  · exact RG.to rfl (Rto.refl _)
set_option maxRecDepth 100000 in
theorem b_X1_unmoved_5 : (fun (v1 : Int64) (M : Mem) (a2 : (Int64 × Int32)) => run C_X1_unmoved 2 (40, [some (.ref 2), some (.long v1), none, some (.long a2.1), none, some (.int a2.2)], [], M, 0)) = (fun (v1 : Int64) (M : Mem) (a2 : (Int64 × Int32)) => some (.inr (.inl (some (.long a2.1)), M, 0))) := by rfl
def d_X1_unmoved (v1 : Int64) (M : Mem) : Option Int64 := (onIt (iter (g_X1_unmoved_1 v1 M) 20000 ((0 : Int64), (0 : Int32))) (fun (a2 : Int64 × Int32) => some a2.1) (fun r => some r))
set_option maxHeartbeats 2000000 in
theorem r_X1_unmoved (v1 : Int64) (M : Mem) : RG C_X1_unmoved (0, [some (.ref 2), some (.long v1), none, none, none, none], [], M, 0) (d_X1_unmoved v1 M) (fun v => .inr (.inl (some (.long v)), M)) := by
  unfold d_X1_unmoved
  refine RG.st 4 (congrFun (congrFun b_X1_unmoved_0 v1) M) ?_
  refine RG.loop (hd := (fun (a1 : Int64 × Int32) => (5, [some (.ref 2), some (.long v1), none, some (.long a1.1), none, some (.int a1.2)], [], M, 0))) (ex := (fun (a1 : Int64 × Int32) => (40, [some (.ref 2), some (.long v1), none, some (.long a1.1), none, some (.int a1.2)], [], M, 0))) (rt := (fun (v : Int64) => (.inl (some (.long v)), M))) (l_X1_unmoved_1 v1 M) (fun a2 => ?_) (fun r v h => by cases h; rfl)
  show RG C_X1_unmoved (40, [some (.ref 2), some (.long v1), none, some (.long a2.1), none, some (.int a2.2)], [], M, 0) _ _
  exact RG.fin rfl (Rend.run 2 (congrFun (congrFun (congrFun b_X1_unmoved_5 v1) M) a2))
def fn_X1_unmoved : Fn := fun av M => match av with
  | [.ref r0, .long v1] => bif Nat.beq r0 2 then (d_X1_unmoved v1 M).bind fun v => some (.inl (some (.long v)), M) else (none)
  | _ => none
theorem cfg_X1_unmoved : CfgOK RX1 cX1_unmoved (C_X1_unmoved) 3 := ⟨tk_X1_unmoved, csF_nd, flk_X1, (List.forall_mem_cons.mpr ⟨Or.inr ⟨yX7_bit, cX7_bit, 1, (some .long), none, 1, ok_X7_bit, by decide, by decide, w_code_Sumsetry_bit__I_J, w_initialized_Sumsetry, ⟨by decide, by decide⟩, Or.inr (Or.inl ⟨rfl, rfl, show (parseMethodDescriptor yX7_bit.desc).map (fun d => d.parameters.length) = some 1 from by decide +kernel, ⟨"Sumsetry", by decide +kernel⟩, w_static_Sumsetry_bit__I_J⟩)⟩,
    List.forall_mem_cons.mpr ⟨Or.inr ⟨yX1_shifted, cX1_shifted, 10, (some .long), none, 2, ok_X1_shifted, by decide, by decide, w_code_Sumsetry_Group_shifted__JI_J, w_initialized_Sumsetry_Group, ⟨by decide, by decide⟩, Or.inr (Or.inr ⟨rfl, rfl, show (parseMethodDescriptor yX1_shifted.desc).map (fun d => d.parameters.length + 1) = some 3 from by decide +kernel, w_methodLink_Sumsetry_Group_84, w_instanceMethod_Sumsetry_Group_shifted__JI_J, w_selects_Sumsetry_Group_shifted__JI_J, ⟨_, rfl, rfl⟩⟩)⟩, fun _ h => absurd h List.not_mem_nil⟩⟩), ink_X1, lgk_X1, fun e h => absurd h List.not_mem_nil, (fun h hh => absurd hh List.not_mem_nil)⟩
theorem ok_X1_unmoved : OkM csF yX1_unmoved (Cond.code yX1_unmoved cX1_unmoved 6 (some .long)) 3 0 fn_X1_unmoved :=
  OkM_of (own := RX1) (C := C_X1_unmoved) (by decide +kernel) rfl (cfg_X1_unmoved) rfl rfl rfl rfl (by
    intro av M o M' h
    unfold fn_X1_unmoved at h
    split at h
    · rename_i r0 v1
      rcases bif_cs h with ⟨hb, h⟩ | ⟨-, h⟩
      · skip
        have hr0 := hb
        obtain rfl := Nat.eq_of_beq_eq_true hr0
        obtain ⟨w, hw, h⟩ := bind_cs h
        cases h
        exact ⟨rfl, Nat.le_of_ble_eq_true rfl, (r_X1_unmoved v1 M) w hw⟩
      · cases h
    · cases h)
def t_X1_orderOf : List (Nat × Instr × Nat) := [(0, .lload_n 1, 1), (1, .lstore_n 3, 1), (2, .iconst 1, 1), (3, .istore 5, 2), (5, .iload 5, 2), (7, .aload_n 0, 1), (8, .getfield 26, 3), (11, .if_icmp .gt 28, 3), (14, .lload_n 3, 1), (15, .aload_n 0, 1), (16, .getfield 33, 3), (19, .lcmp, 1), (20, .ifCond .ne 6, 3), (23, .iload 5, 2), (25, .ireturn, 1), (26, .aload_n 0, 1), (27, .lload_n 3, 1), (28, .lload_n 1, 1), (29, .invokevirtual 91, 3), (32, .lstore_n 3, 1), (33, .iinc 5 1, 3), (36, .goto (-31), 3), (39, .iconst (-1), 1), (40, .ireturn, 1)]
theorem tk_X1_orderOf : ∀ x ∈ t_X1_orderOf, decode cX1_orderOf x.1 = .ok x.2 := by decide +kernel
def C_X1_orderOf : Cfg := (t_X1_orderOf, csF, fl_X1, [(91, 2, 1, 3, 0, fn_X1_sumOf)], in_X1, lg_X1, [], [], none, (some .int), 0)
set_option maxRecDepth 100000 in
theorem b_X1_orderOf_0 : (fun (v1 : Int64) (M : Mem) => run C_X1_orderOf 4 (0, [some (.ref 2), some (.long v1), none, none, none, none], [], M, 0)) = (fun (v1 : Int64) (M : Mem) => some (.inl (5, [some (.ref 2), some (.long v1), none, some (.long v1), none, some (.int (1 : Int32))], [], M, 0))) := by rfl
set_option maxRecDepth 100000 in
theorem b_X1_orderOf_1 : (fun (v1 : Int64) (M : Mem) (a1 : (Int64 × Int32)) => run C_X1_orderOf 4 (5, [some (.ref 2), some (.long v1), none, some (.long a1.1), none, some (.int a1.2)], [], M, 0)) = (fun (v1 : Int64) (M : Mem) (a1 : (Int64 × Int32)) => some (.inl ((br (!decide (a1.2 ≤ (M.1 2 2))) 11 3 (28)), [some (.ref 2), some (.long v1), none, some (.long a1.1), none, some (.int a1.2)], [], M, 0))) := by rfl
set_option maxRecDepth 100000 in
theorem b_X1_orderOf_2 : (fun (v1 : Int64) (M : Mem) (a1 : (Int64 × Int32)) => run C_X1_orderOf 5 (14, [some (.ref 2), some (.long v1), none, some (.long a1.1), none, some (.int a1.2)], [], M, 0)) = (fun (v1 : Int64) (M : Mem) (a1 : (Int64 × Int32)) => some (.inl ((br (!decide ((lg_cmp a1.1 (M.2 2 3)) = 0)) 20 3 (6)), [some (.ref 2), some (.long v1), none, some (.long a1.1), none, some (.int a1.2)], [], M, 0))) := by rfl
set_option maxRecDepth 100000 in
theorem b_X1_orderOf_3 : (fun (v1 : Int64) (M : Mem) (a1 : (Int64 × Int32)) => run C_X1_orderOf 2 (23, [some (.ref 2), some (.long v1), none, some (.long a1.1), none, some (.int a1.2)], [], M, 0)) = (fun (v1 : Int64) (M : Mem) (a1 : (Int64 × Int32)) => some (.inr (.inl (some (.int a1.2)), M, 0))) := by rfl
set_option maxRecDepth 100000 in
theorem b_X1_orderOf_4 : (fun (v1 : Int64) (M : Mem) (a1 : (Int64 × Int32)) => run C_X1_orderOf 3 (26, [some (.ref 2), some (.long v1), none, some (.long a1.1), none, some (.int a1.2)], [], M, 0)) = (fun (v1 : Int64) (M : Mem) (a1 : (Int64 × Int32)) => some (.inl (29, [some (.ref 2), some (.long v1), none, some (.long a1.1), none, some (.int a1.2)], [.long v1, .long a1.1, .ref 2], M, 0))) := by rfl
set_option maxRecDepth 100000 in
theorem b_X1_orderOf_5 : (fun (v1 : Int64) (M : Mem) (a1 : (Int64 × Int32)) (w1 : Int64) => run C_X1_orderOf 3 (32, [some (.ref 2), some (.long v1), none, some (.long a1.1), none, some (.int a1.2)], [.long w1], M, 0)) = (fun (v1 : Int64) (M : Mem) (a1 : (Int64 × Int32)) (w1 : Int64) => some (.inl (5, [some (.ref 2), some (.long v1), none, some (.long w1), none, some (.int (a1.2 + (1 : Int32)))], [], M, 0))) := by rfl
def g_X1_orderOf_1 (v1 : Int64) (M : Mem) : Int64 × Int32 → Option ((Int64 × Int32) ⊕ ((Int64 × Int32) ⊕ Int32)) := fun (a1 : Int64 × Int32) => (if a1.2 ≤ (M.1 2 2) then (if (lg_cmp a1.1 (M.2 2 3)) = 0 then some (.inr (.inr a1.2)) else ((d_X1_sumOf a1.1 v1 M).bind fun w1 => some (.inl (w1, (a1.2 + (1 : Int32)))))) else some (.inr (.inl (a1.1, a1.2))))
set_option maxHeartbeats 2000000 in
theorem l_X1_orderOf_1 (v1 : Int64) (M : Mem) : ∀ a1 : Int64 × Int32, RG C_X1_orderOf ((fun (a1 : Int64 × Int32) => (5, [some (.ref 2), some (.long v1), none, some (.long a1.1), none, some (.int a1.2)], [], M, 0)) a1) (g_X1_orderOf_1 v1 M a1) (lpP (fun (a1 : Int64 × Int32) => (5, [some (.ref 2), some (.long v1), none, some (.long a1.1), none, some (.int a1.2)], [], M, 0)) (fun (a1 : Int64 × Int32) => (39, [some (.ref 2), some (.long v1), none, some (.long a1.1), none, some (.int a1.2)], [], M, 0)) (fun (v : Int32) => (.inl (some (.int v)), M))) := by
  intro a1
  unfold g_X1_orderOf_1
  show RG C_X1_orderOf (5, [some (.ref 2), some (.long v1), none, some (.long a1.1), none, some (.int a1.2)], [], M, 0) _ _
  refine RG.st 4 (congrFun (congrFun (congrFun b_X1_orderOf_1 v1) M) a1) ?_
  refine RG.ite (fun h1 => RG.brNF (q := 14) h1 rfl ?_) (fun h1 => RG.brNT (q := 39) h1 rfl ?_)
  · refine RG.st 5 (congrFun (congrFun (congrFun b_X1_orderOf_2 v1) M) a1) ?_
    refine RG.ite (fun h2 => RG.brNF (q := 23) h2 rfl ?_) (fun h2 => RG.brNT (q := 26) h2 rfl ?_)
    · exact RG.fin rfl (Rend.run 2 (congrFun (congrFun (congrFun b_X1_orderOf_3 v1) M) a1))
    · refine RG.st 3 (congrFun (congrFun (congrFun b_X1_orderOf_4 v1) M) a1) ?_
      refine RG.bind (fun w1 h3 => RG.st 1 (run_callV (v := some (.long w1)) rfl rfl rfl rfl rfl (bindL h3)) ?_)
      show RG C_X1_orderOf (32, [some (.ref 2), some (.long v1), none, some (.long a1.1), none, some (.int a1.2)], [.long w1], M, 0) _ _
      refine RG.st 3 (congrFun (congrFun (congrFun (congrFun b_X1_orderOf_5 v1) M) a1) w1) ?_
      exact RG.to rfl (Rto.refl _)
  · exact RG.to rfl (Rto.refl _)
set_option maxRecDepth 100000 in
theorem b_X1_orderOf_6 : (fun (v1 : Int64) (M : Mem) (a2 : (Int64 × Int32)) => run C_X1_orderOf 2 (39, [some (.ref 2), some (.long v1), none, some (.long a2.1), none, some (.int a2.2)], [], M, 0)) = (fun (v1 : Int64) (M : Mem) (a2 : (Int64 × Int32)) => some (.inr (.inl (some (.int (-1 : Int32))), M, 0))) := by rfl
def d_X1_orderOf (v1 : Int64) (M : Mem) : Option Int32 := (onIt (iter (g_X1_orderOf_1 v1 M) 20000 (v1, (1 : Int32))) (fun (a2 : Int64 × Int32) => some (-1 : Int32)) (fun r => some r))
set_option maxHeartbeats 2000000 in
theorem r_X1_orderOf (v1 : Int64) (M : Mem) : RG C_X1_orderOf (0, [some (.ref 2), some (.long v1), none, none, none, none], [], M, 0) (d_X1_orderOf v1 M) (fun v => .inr (.inl (some (.int v)), M)) := by
  unfold d_X1_orderOf
  refine RG.st 4 (congrFun (congrFun b_X1_orderOf_0 v1) M) ?_
  refine RG.loop (hd := (fun (a1 : Int64 × Int32) => (5, [some (.ref 2), some (.long v1), none, some (.long a1.1), none, some (.int a1.2)], [], M, 0))) (ex := (fun (a1 : Int64 × Int32) => (39, [some (.ref 2), some (.long v1), none, some (.long a1.1), none, some (.int a1.2)], [], M, 0))) (rt := (fun (v : Int32) => (.inl (some (.int v)), M))) (l_X1_orderOf_1 v1 M) (fun a2 => ?_) (fun r v h => by cases h; rfl)
  show RG C_X1_orderOf (39, [some (.ref 2), some (.long v1), none, some (.long a2.1), none, some (.int a2.2)], [], M, 0) _ _
  exact RG.fin rfl (Rend.run 2 (congrFun (congrFun (congrFun b_X1_orderOf_6 v1) M) a2))
def fn_X1_orderOf : Fn := fun av M => match av with
  | [.ref r0, .long v1] => bif Nat.beq r0 2 then (d_X1_orderOf v1 M).bind fun v => some (.inl (some (.int v)), M) else (none)
  | _ => none
theorem cfg_X1_orderOf : CfgOK RX1 cX1_orderOf (C_X1_orderOf) 5 := ⟨tk_X1_orderOf, csF_nd, flk_X1, (List.forall_mem_cons.mpr ⟨Or.inr ⟨yX1_sumOf, cX1_sumOf, 10, (some .long), none, 4, ok_X1_sumOf, by decide, by decide, w_code_Sumsetry_Group_sumOf__JJ_J, w_initialized_Sumsetry_Group, ⟨by decide, by decide⟩, Or.inr (Or.inr ⟨rfl, rfl, show (parseMethodDescriptor yX1_sumOf.desc).map (fun d => d.parameters.length + 1) = some 3 from by decide +kernel, w_methodLink_Sumsetry_Group_91, w_instanceMethod_Sumsetry_Group_sumOf__JJ_J, w_selects_Sumsetry_Group_sumOf__JJ_J, ⟨_, rfl, rfl⟩⟩)⟩, fun _ h => absurd h List.not_mem_nil⟩), ink_X1, lgk_X1, fun e h => absurd h List.not_mem_nil, (fun h hh => absurd hh List.not_mem_nil)⟩
theorem ok_X1_orderOf : OkM csF yX1_orderOf (Cond.code yX1_orderOf cX1_orderOf 6 (some .int)) 5 0 fn_X1_orderOf :=
  OkM_of (own := RX1) (C := C_X1_orderOf) (by decide +kernel) rfl (cfg_X1_orderOf) rfl rfl rfl rfl (by
    intro av M o M' h
    unfold fn_X1_orderOf at h
    split at h
    · rename_i r0 v1
      rcases bif_cs h with ⟨hb, h⟩ | ⟨-, h⟩
      · skip
        have hr0 := hb
        obtain rfl := Nat.eq_of_beq_eq_true hr0
        obtain ⟨w, hw, h⟩ := bind_cs h
        cases h
        exact ⟨rfl, Nat.le_of_ble_eq_true rfl, (r_X1_orderOf v1 M) w hw⟩
      · cases h
    · cases h)
def t_X1_zeroConstant : List (Nat × Instr × Nat) := [(0, .iconst 1, 1), (1, .istore_n 1, 1), (2, .iconst 2, 1), (3, .istore_n 2, 1), (4, .iload_n 2, 1), (5, .aload_n 0, 1), (6, .getfield 19, 3), (9, .if_icmp .gt 33, 3), (12, .aload_n 0, 1), (13, .getfield 19, 3), (16, .iload_n 2, 1), (17, .invokestatic 56, 3), (20, .ifCond .ne 16, 3), (23, .aload_n 0, 1), (24, .getfield 23, 3), (27, .iload_n 2, 1), (28, .invokestatic 56, 3), (31, .ifCond .ne 5, 3), (34, .iload_n 2, 1), (35, .istore_n 1, 1), (36, .iinc 2 1, 3), (39, .goto (-35), 3), (42, .iload_n 1, 1), (43, .aload_n 0, 1), (44, .getfield 26, 3), (47, .iload_n 1, 1), (48, .invokestatic 53, 3), (51, .iadd, 1), (52, .iconst 1, 1), (53, .isub, 1), (54, .ireturn, 1)]
theorem tk_X1_zeroConstant : ∀ x ∈ t_X1_zeroConstant, decode cX1_zeroConstant x.1 = .ok x.2 := by decide +kernel
def C_X1_zeroConstant : Cfg := (t_X1_zeroConstant, csF, fl_X1, [(53, 1, 5, 2, 0, fn_X7_share), (56, 1, 5, 2, 0, fn_X7_rest)], in_X1, lg_X1, [], [], none, (some .int), 0)
set_option maxRecDepth 100000 in
theorem b_X1_zeroConstant_0 : (fun (M : Mem) => run C_X1_zeroConstant 4 (0, [some (.ref 2), none, none], [], M, 0)) = (fun (M : Mem) => some (.inl (4, [some (.ref 2), some (.int (1 : Int32)), some (.int (2 : Int32))], [], M, 0))) := by rfl
set_option maxRecDepth 100000 in
theorem b_X1_zeroConstant_1 : (fun (M : Mem) (a1 : (Int32 × Int32)) => run C_X1_zeroConstant 4 (4, [some (.ref 2), some (.int a1.1), some (.int a1.2)], [], M, 0)) = (fun (M : Mem) (a1 : (Int32 × Int32)) => some (.inl ((br (!decide (a1.2 ≤ (M.1 2 0))) 9 3 (33)), [some (.ref 2), some (.int a1.1), some (.int a1.2)], [], M, 0))) := by rfl
set_option maxRecDepth 100000 in
theorem b_X1_zeroConstant_2 : (fun (M : Mem) (a1 : (Int32 × Int32)) => run C_X1_zeroConstant 5 (12, [some (.ref 2), some (.int a1.1), some (.int a1.2)], [], M, 0)) = (fun (M : Mem) (a1 : (Int32 × Int32)) => some (.inl ((br (!decide ((d_X7_rest (M.1 2 0) a1.2) = 0)) 20 3 (16)), [some (.ref 2), some (.int a1.1), some (.int a1.2)], [], M, 0))) := by rfl
set_option maxRecDepth 100000 in
theorem b_X1_zeroConstant_3 : (fun (M : Mem) (a1 : (Int32 × Int32)) => run C_X1_zeroConstant 5 (23, [some (.ref 2), some (.int a1.1), some (.int a1.2)], [], M, 0)) = (fun (M : Mem) (a1 : (Int32 × Int32)) => some (.inl ((br (!decide ((d_X7_rest (M.1 2 1) a1.2) = 0)) 31 3 (5)), [some (.ref 2), some (.int a1.1), some (.int a1.2)], [], M, 0))) := by rfl
set_option maxRecDepth 100000 in
theorem b_X1_zeroConstant_4 : (fun (M : Mem) (a1 : (Int32 × Int32)) => run C_X1_zeroConstant 2 (34, [some (.ref 2), some (.int a1.1), some (.int a1.2)], [], M, 0)) = (fun (M : Mem) (a1 : (Int32 × Int32)) => some (.inl (36, [some (.ref 2), some (.int a1.2), some (.int a1.2)], [], M, 0))) := by rfl
theorem m_X1_zeroConstant_0 (M : Mem) (a1 : (Int32 × Int32)) : Rto C_X1_zeroConstant (23, [some (.ref 2), some (.int a1.1), some (.int a1.2)], [], M, 0) (36, [some (.ref 2), some (.int (if (d_X7_rest (M.1 2 1) a1.2) = 0 then a1.2 else a1.1)), some (.int a1.2)], [], M, 0) := by
  refine Rto.trans (Rto.run 5 (congrFun (congrFun b_X1_zeroConstant_3 M) a1)) ?_
  by_cases h : (d_X7_rest (M.1 2 1) a1.2) = 0
  · refine Rto.trans (Rto.brNF (q := 34) h rfl) ?_
    refine Rto.trans (Rto.run 2 (congrFun (congrFun b_X1_zeroConstant_4 M) a1)) ?_
    exact Rto.eq (by first | (simp only [if_pos h]; done) | rfl | exact absurd rfl h | (simp; done))
  · refine Rto.trans (Rto.brNT (q := 36) h rfl) ?_
    exact Rto.eq (by first | (simp only [if_neg h]; done) | rfl | exact absurd rfl h | (simp; done))
theorem m_X1_zeroConstant_1 (M : Mem) (a1 : (Int32 × Int32)) : Rto C_X1_zeroConstant (12, [some (.ref 2), some (.int a1.1), some (.int a1.2)], [], M, 0) (36, [some (.ref 2), some (.int (if (d_X7_rest (M.1 2 0) a1.2) = 0 then (if (d_X7_rest (M.1 2 1) a1.2) = 0 then a1.2 else a1.1) else a1.1)), some (.int a1.2)], [], M, 0) := by
  refine Rto.trans (Rto.run 5 (congrFun (congrFun b_X1_zeroConstant_2 M) a1)) ?_
  by_cases h : (d_X7_rest (M.1 2 0) a1.2) = 0
  · refine Rto.trans (Rto.brNF (q := 23) h rfl) ?_
    refine Rto.trans (m_X1_zeroConstant_0 M a1) ?_
    exact Rto.eq (by first | (simp only [if_pos h]; done) | rfl | exact absurd rfl h | (simp; done))
  · refine Rto.trans (Rto.brNT (q := 36) h rfl) ?_
    exact Rto.eq (by first | (simp only [if_neg h]; done) | rfl | exact absurd rfl h | (simp; done))
set_option maxRecDepth 100000 in
theorem b_X1_zeroConstant_5 : (fun (M : Mem) (a1 : (Int32 × Int32)) => run C_X1_zeroConstant 2 (36, [some (.ref 2), some (.int (if (d_X7_rest (M.1 2 0) a1.2) = 0 then (if (d_X7_rest (M.1 2 1) a1.2) = 0 then a1.2 else a1.1) else a1.1)), some (.int a1.2)], [], M, 0)) = (fun (M : Mem) (a1 : (Int32 × Int32)) => some (.inl (4, [some (.ref 2), some (.int (if (d_X7_rest (M.1 2 0) a1.2) = 0 then (if (d_X7_rest (M.1 2 1) a1.2) = 0 then a1.2 else a1.1) else a1.1)), some (.int (a1.2 + (1 : Int32)))], [], M, 0))) := by rfl
def g_X1_zeroConstant_1 (M : Mem) : Int32 × Int32 → Option ((Int32 × Int32) ⊕ ((Int32 × Int32) ⊕ Int32)) := fun (a1 : Int32 × Int32) => (if a1.2 ≤ (M.1 2 0) then some (.inl ((if (d_X7_rest (M.1 2 0) a1.2) = 0 then (if (d_X7_rest (M.1 2 1) a1.2) = 0 then a1.2 else a1.1) else a1.1), (a1.2 + (1 : Int32)))) else some (.inr (.inl (a1.1, a1.2))))
set_option maxHeartbeats 2000000 in
theorem l_X1_zeroConstant_1 (M : Mem) : ∀ a1 : Int32 × Int32, RG C_X1_zeroConstant ((fun (a1 : Int32 × Int32) => (4, [some (.ref 2), some (.int a1.1), some (.int a1.2)], [], M, 0)) a1) (g_X1_zeroConstant_1 M a1) (lpP (fun (a1 : Int32 × Int32) => (4, [some (.ref 2), some (.int a1.1), some (.int a1.2)], [], M, 0)) (fun (a1 : Int32 × Int32) => (42, [some (.ref 2), some (.int a1.1), some (.int a1.2)], [], M, 0)) (fun (v : Int32) => (.inl (some (.int v)), M))) := by
  intro a1
  unfold g_X1_zeroConstant_1
  show RG C_X1_zeroConstant (4, [some (.ref 2), some (.int a1.1), some (.int a1.2)], [], M, 0) _ _
  refine RG.st 4 (congrFun (congrFun b_X1_zeroConstant_1 M) a1) ?_
  refine RG.ite (fun h1 => RG.brNF (q := 12) h1 rfl ?_) (fun h1 => RG.brNT (q := 42) h1 rfl ?_)
  · refine RG.step (m_X1_zeroConstant_1 M a1) ?_
    refine RG.st 2 (congrFun (congrFun b_X1_zeroConstant_5 M) a1) ?_
    exact RG.to rfl (Rto.refl _)
  · exact RG.to rfl (Rto.refl _)
set_option maxRecDepth 100000 in
theorem b_X1_zeroConstant_6 : (fun (M : Mem) (a2 : (Int32 × Int32)) => run C_X1_zeroConstant 9 (42, [some (.ref 2), some (.int a2.1), some (.int a2.2)], [], M, 0)) = (fun (M : Mem) (a2 : (Int32 × Int32)) => some (.inr (.inl (some (.int ((a2.1 + (d_X7_share (M.1 2 2) a2.1)) - (1 : Int32)))), M, 0))) := by rfl
def d_X1_zeroConstant (M : Mem) : Option Int32 := (onIt (iter (g_X1_zeroConstant_1 M) 20000 ((1 : Int32), (2 : Int32))) (fun (a2 : Int32 × Int32) => some ((a2.1 + (d_X7_share (M.1 2 2) a2.1)) - (1 : Int32))) (fun r => some r))
set_option maxHeartbeats 2000000 in
theorem r_X1_zeroConstant (M : Mem) : RG C_X1_zeroConstant (0, [some (.ref 2), none, none], [], M, 0) (d_X1_zeroConstant M) (fun v => .inr (.inl (some (.int v)), M)) := by
  unfold d_X1_zeroConstant
  refine RG.st 4 (congrFun b_X1_zeroConstant_0 M) ?_
  refine RG.loop (hd := (fun (a1 : Int32 × Int32) => (4, [some (.ref 2), some (.int a1.1), some (.int a1.2)], [], M, 0))) (ex := (fun (a1 : Int32 × Int32) => (42, [some (.ref 2), some (.int a1.1), some (.int a1.2)], [], M, 0))) (rt := (fun (v : Int32) => (.inl (some (.int v)), M))) (l_X1_zeroConstant_1 M) (fun a2 => ?_) (fun r v h => by cases h; rfl)
  show RG C_X1_zeroConstant (42, [some (.ref 2), some (.int a2.1), some (.int a2.2)], [], M, 0) _ _
  exact RG.fin rfl (Rend.run 9 (congrFun (congrFun b_X1_zeroConstant_6 M) a2))
def fn_X1_zeroConstant : Fn := fun av M => match av with
  | [.ref r0] => bif Nat.beq r0 2 then (d_X1_zeroConstant M).bind fun v => some (.inl (some (.int v)), M) else (none)
  | _ => none
theorem cfg_X1_zeroConstant : CfgOK RX1 cX1_zeroConstant (C_X1_zeroConstant) 2 := ⟨tk_X1_zeroConstant, csF_nd, flk_X1, (List.forall_mem_cons.mpr ⟨Or.inr ⟨yX7_share, cX7_share, 2, (some .int), none, 1, ok_X7_share, by decide, by decide, w_code_Sumsetry_share__II_I, w_initialized_Sumsetry, ⟨by decide, by decide⟩, Or.inr (Or.inl ⟨rfl, rfl, show (parseMethodDescriptor yX7_share.desc).map (fun d => d.parameters.length) = some 2 from by decide +kernel, ⟨"Sumsetry", by decide +kernel⟩, w_static_Sumsetry_share__II_I⟩)⟩,
    List.forall_mem_cons.mpr ⟨Or.inr ⟨yX7_rest, cX7_rest, 3, (some .int), none, 1, ok_X7_rest, by decide, by decide, w_code_Sumsetry_rest__II_I, w_initialized_Sumsetry, ⟨by decide, by decide⟩, Or.inr (Or.inl ⟨rfl, rfl, show (parseMethodDescriptor yX7_rest.desc).map (fun d => d.parameters.length) = some 2 from by decide +kernel, ⟨"Sumsetry", by decide +kernel⟩, w_static_Sumsetry_rest__II_I⟩)⟩, fun _ h => absurd h List.not_mem_nil⟩⟩), ink_X1, lgk_X1, fun e h => absurd h List.not_mem_nil, (fun h hh => absurd hh List.not_mem_nil)⟩
theorem ok_X1_zeroConstant : OkM csF yX1_zeroConstant (Cond.code yX1_zeroConstant cX1_zeroConstant 3 (some .int)) 2 0 fn_X1_zeroConstant :=
  OkM_of (own := RX1) (C := C_X1_zeroConstant) (by decide +kernel) rfl (cfg_X1_zeroConstant) rfl rfl rfl rfl (by
    intro av M o M' h
    unfold fn_X1_zeroConstant at h
    split at h
    · rename_i r0
      rcases bif_cs h with ⟨hb, h⟩ | ⟨-, h⟩
      · skip
        have hr0 := hb
        obtain rfl := Nat.eq_of_beq_eq_true hr0
        obtain ⟨w, hw, h⟩ := bind_cs h
        cases h
        exact ⟨rfl, Nat.le_of_ble_eq_true rfl, (r_X1_zeroConstant M) w hw⟩
      · cases h
    · cases h)
def fl_X2 : List (Nat × Nat × Nat) := [(9, 4, 0), (15, 4, 1), (18, 4, 2), (21, 4, 3), (24, 4, 4), (27, 4, 5), (30, 4, 6), (37, 4, 7), (41, 4, 8), (44, 4, 9), (59, 2, 2)]
theorem flk_X2 : ∀ e ∈ fl_X2, fldb RX2 e = true := by decide +kernel
def in_X2 : List (Nat × Int32) := []
theorem ink_X2 : ∀ e ∈ in_X2, Cond.constant RX2 e.1 e.2 ∈ TB := by decide +kernel
def lg_X2 : List (Nat × Int64) := [(80, -1)]
theorem lgk_X2 : ∀ e ∈ lg_X2, Cond.constantLong RX2 e.1 e.2 ∈ TB := by decide +kernel
def t_X2_lineUp : List (Nat × Instr × Nat) := [(0, .iconst 0, 1), (1, .istore 4, 2), (3, .iconst 0, 1), (4, .istore 5, 2), (6, .iload 5, 2), (8, .aload_n 0, 1), (9, .getfield 59, 3), (12, .if_icmp .ge 29, 3), (15, .lload_n 1, 1), (16, .iload 5, 2), (18, .invokestatic 64, 3), (21, .ifCond .eq 14, 3), (24, .aload_n 3, 1), (25, .iload 4, 2), (27, .iload 5, 2), (29, .invokestatic 68, 3), (32, .iinc 4 1, 3), (35, .iinc 5 1, 3), (38, .goto (-32), 3), (41, .iload 4, 2), (43, .ireturn, 1)]
theorem tk_X2_lineUp : ∀ x ∈ t_X2_lineUp, decode cX2_lineUp x.1 = .ok x.2 := by decide +kernel
def C_X2_lineUp : Cfg := (t_X2_lineUp, csF, fl_X2, [(64, 1, 5, 2, 0, fn_X7_has), (68, 1, 5, 3, 0, fn_X7_lay)], in_X2, lg_X2, [], [], none, (some .int), 0)
set_option maxRecDepth 100000 in
theorem b_X2_lineUp_k5_0 : (fun (v1 : Int64) (M : Mem) => run C_X2_lineUp 4 (0, [some (.ref 2), some (.long v1), none, some (.ref 5), none, none], [], M, 0)) = (fun (v1 : Int64) (M : Mem) => some (.inl (6, [some (.ref 2), some (.long v1), none, some (.ref 5), some (.int (0 : Int32)), some (.int (0 : Int32))], [], M, 0))) := by rfl
set_option maxRecDepth 100000 in
theorem b_X2_lineUp_k5_1 : (fun (v1 : Int64) (a1 : (Int32 × Int32 × Mem)) => run C_X2_lineUp 4 (6, [some (.ref 2), some (.long v1), none, some (.ref 5), some (.int a1.1), some (.int a1.2.1)], [], a1.2.2, 0)) = (fun (v1 : Int64) (a1 : (Int32 × Int32 × Mem)) => some (.inl ((br (!decide (a1.2.1 < (a1.2.2.1 2 2))) 12 3 (29)), [some (.ref 2), some (.long v1), none, some (.ref 5), some (.int a1.1), some (.int a1.2.1)], [], a1.2.2, 0))) := by rfl
set_option maxRecDepth 100000 in
theorem b_X2_lineUp_k5_2 : (fun (v1 : Int64) (a1 : (Int32 × Int32 × Mem)) => run C_X2_lineUp 4 (15, [some (.ref 2), some (.long v1), none, some (.ref 5), some (.int a1.1), some (.int a1.2.1)], [], a1.2.2, 0)) = (fun (v1 : Int64) (a1 : (Int32 × Int32 × Mem)) => some (.inl ((br (decide ((d_X7_has v1 a1.2.1) = 0)) 21 3 (14)), [some (.ref 2), some (.long v1), none, some (.ref 5), some (.int a1.1), some (.int a1.2.1)], [], a1.2.2, 0))) := by rfl
set_option maxRecDepth 100000 in
theorem b_X2_lineUp_k5_3 : (fun (v1 : Int64) (a1 : (Int32 × Int32 × Mem)) => run C_X2_lineUp 5 (24, [some (.ref 2), some (.long v1), none, some (.ref 5), some (.int a1.1), some (.int a1.2.1)], [], a1.2.2, 0)) = (fun (v1 : Int64) (a1 : (Int32 × Int32 × Mem)) => some (.inl (35, [some (.ref 2), some (.long v1), none, some (.ref 5), some (.int (a1.1 + (1 : Int32))), some (.int a1.2.1)], [], ((d_X7_lay 5 6 a1.1 a1.2.1) a1.2.2), 0))) := by rfl
theorem m_X2_lineUp_k5_0 (v1 : Int64) (a1 : (Int32 × Int32 × Mem)) : Rto C_X2_lineUp (15, [some (.ref 2), some (.long v1), none, some (.ref 5), some (.int a1.1), some (.int a1.2.1)], [], a1.2.2, 0) (35, [some (.ref 2), some (.long v1), none, some (.ref 5), some (.int (if (d_X7_has v1 a1.2.1) = 0 then a1.1 else (a1.1 + (1 : Int32)))), some (.int a1.2.1)], [], (if (d_X7_has v1 a1.2.1) = 0 then a1.2.2 else ((d_X7_lay 5 6 a1.1 a1.2.1) a1.2.2)), 0) := by
  refine Rto.trans (Rto.run 4 (congrFun (congrFun b_X2_lineUp_k5_2 v1) a1)) ?_
  by_cases h : (d_X7_has v1 a1.2.1) = 0
  · refine Rto.trans (Rto.brT (q := 35) h rfl) ?_
    exact Rto.eq (by first | (simp only [if_pos h]; done) | rfl | exact absurd rfl h | (simp; done))
  · refine Rto.trans (Rto.brF (q := 24) h rfl) ?_
    refine Rto.trans (Rto.run 5 (congrFun (congrFun b_X2_lineUp_k5_3 v1) a1)) ?_
    exact Rto.eq (by first | (simp only [if_neg h]; done) | rfl | exact absurd rfl h | (simp; done))
set_option maxRecDepth 100000 in
theorem b_X2_lineUp_k5_4 : (fun (v1 : Int64) (a1 : (Int32 × Int32 × Mem)) => run C_X2_lineUp 2 (35, [some (.ref 2), some (.long v1), none, some (.ref 5), some (.int (if (d_X7_has v1 a1.2.1) = 0 then a1.1 else (a1.1 + (1 : Int32)))), some (.int a1.2.1)], [], (if (d_X7_has v1 a1.2.1) = 0 then a1.2.2 else ((d_X7_lay 5 6 a1.1 a1.2.1) a1.2.2)), 0)) = (fun (v1 : Int64) (a1 : (Int32 × Int32 × Mem)) => some (.inl (6, [some (.ref 2), some (.long v1), none, some (.ref 5), some (.int (if (d_X7_has v1 a1.2.1) = 0 then a1.1 else (a1.1 + (1 : Int32)))), some (.int (a1.2.1 + (1 : Int32)))], [], (if (d_X7_has v1 a1.2.1) = 0 then a1.2.2 else ((d_X7_lay 5 6 a1.1 a1.2.1) a1.2.2)), 0))) := by rfl
def g_X2_lineUp_k5_1 (v1 : Int64) : Int32 × Int32 × Mem → Option ((Int32 × Int32 × Mem) ⊕ ((Int32 × Int32 × Mem) ⊕ (Res × Mem))) := fun (a1 : Int32 × Int32 × Mem) => (if a1.2.1 < (a1.2.2.1 2 2) then some (.inl ((if (d_X7_has v1 a1.2.1) = 0 then a1.1 else (a1.1 + (1 : Int32))), (a1.2.1 + (1 : Int32)), (if (d_X7_has v1 a1.2.1) = 0 then a1.2.2 else ((d_X7_lay 5 6 a1.1 a1.2.1) a1.2.2)))) else some (.inr (.inl (a1.1, a1.2.1, a1.2.2))))
set_option maxHeartbeats 2000000 in
theorem l_X2_lineUp_k5_1 (v1 : Int64) (M : Mem) : ∀ a1 : Int32 × Int32 × Mem, RG C_X2_lineUp ((fun (a1 : Int32 × Int32 × Mem) => (6, [some (.ref 2), some (.long v1), none, some (.ref 5), some (.int a1.1), some (.int a1.2.1)], [], a1.2.2, 0)) a1) (g_X2_lineUp_k5_1 v1 a1) (lpP (fun (a1 : Int32 × Int32 × Mem) => (6, [some (.ref 2), some (.long v1), none, some (.ref 5), some (.int a1.1), some (.int a1.2.1)], [], a1.2.2, 0)) (fun (a1 : Int32 × Int32 × Mem) => (41, [some (.ref 2), some (.long v1), none, some (.ref 5), some (.int a1.1), some (.int a1.2.1)], [], a1.2.2, 0)) id) := by
  intro a1
  unfold g_X2_lineUp_k5_1
  show RG C_X2_lineUp (6, [some (.ref 2), some (.long v1), none, some (.ref 5), some (.int a1.1), some (.int a1.2.1)], [], a1.2.2, 0) _ _
  refine RG.st 4 (congrFun (congrFun b_X2_lineUp_k5_1 v1) a1) ?_
  refine RG.ite (fun h1 => RG.brNF (q := 15) h1 rfl ?_) (fun h1 => RG.brNT (q := 41) h1 rfl ?_)
  · refine RG.step (m_X2_lineUp_k5_0 v1 a1) ?_
    refine RG.st 2 (congrFun (congrFun b_X2_lineUp_k5_4 v1) a1) ?_
    exact RG.to rfl (Rto.refl _)
  · exact RG.to rfl (Rto.refl _)
set_option maxRecDepth 100000 in
theorem b_X2_lineUp_k5_5 : (fun (v1 : Int64) (a2 : (Int32 × Int32 × Mem)) => run C_X2_lineUp 2 (41, [some (.ref 2), some (.long v1), none, some (.ref 5), some (.int a2.1), some (.int a2.2.1)], [], a2.2.2, 0)) = (fun (v1 : Int64) (a2 : (Int32 × Int32 × Mem)) => some (.inr (.inl (some (.int a2.1)), a2.2.2, 0))) := by rfl
def d_X2_lineUp_k5 (v1 : Int64) (M : Mem) : Option (Res × Mem) := (onIt (iter (g_X2_lineUp_k5_1 v1) 20000 ((0 : Int32), (0 : Int32), M)) (fun (a2 : Int32 × Int32 × Mem) => some (.inl (some (.int a2.1)), a2.2.2)) (fun r => some r))
set_option maxHeartbeats 2000000 in
theorem r_X2_lineUp_k5 (v1 : Int64) (M : Mem) : RG C_X2_lineUp (0, [some (.ref 2), some (.long v1), none, some (.ref 5), none, none], [], M, 0) (d_X2_lineUp_k5 v1 M) (fun r => .inr r) := by
  unfold d_X2_lineUp_k5
  refine RG.st 4 (congrFun (congrFun b_X2_lineUp_k5_0 v1) M) ?_
  refine RG.loop (hd := (fun (a1 : Int32 × Int32 × Mem) => (6, [some (.ref 2), some (.long v1), none, some (.ref 5), some (.int a1.1), some (.int a1.2.1)], [], a1.2.2, 0))) (ex := (fun (a1 : Int32 × Int32 × Mem) => (41, [some (.ref 2), some (.long v1), none, some (.ref 5), some (.int a1.1), some (.int a1.2.1)], [], a1.2.2, 0))) (rt := id) (l_X2_lineUp_k5_1 v1 M) (fun a2 => ?_) (fun r v h => by cases h; rfl)
  show RG C_X2_lineUp (41, [some (.ref 2), some (.long v1), none, some (.ref 5), some (.int a2.1), some (.int a2.2.1)], [], a2.2.2, 0) _ _
  exact RG.fin rfl (Rend.run 2 (congrFun (congrFun b_X2_lineUp_k5_5 v1) a2))
set_option maxRecDepth 100000 in
theorem b_X2_lineUp_k6_0 : (fun (v1 : Int64) (M : Mem) => run C_X2_lineUp 4 (0, [some (.ref 2), some (.long v1), none, some (.ref 6), none, none], [], M, 0)) = (fun (v1 : Int64) (M : Mem) => some (.inl (6, [some (.ref 2), some (.long v1), none, some (.ref 6), some (.int (0 : Int32)), some (.int (0 : Int32))], [], M, 0))) := by rfl
set_option maxRecDepth 100000 in
theorem b_X2_lineUp_k6_1 : (fun (v1 : Int64) (a1 : (Int32 × Int32 × Mem)) => run C_X2_lineUp 4 (6, [some (.ref 2), some (.long v1), none, some (.ref 6), some (.int a1.1), some (.int a1.2.1)], [], a1.2.2, 0)) = (fun (v1 : Int64) (a1 : (Int32 × Int32 × Mem)) => some (.inl ((br (!decide (a1.2.1 < (a1.2.2.1 2 2))) 12 3 (29)), [some (.ref 2), some (.long v1), none, some (.ref 6), some (.int a1.1), some (.int a1.2.1)], [], a1.2.2, 0))) := by rfl
set_option maxRecDepth 100000 in
theorem b_X2_lineUp_k6_2 : (fun (v1 : Int64) (a1 : (Int32 × Int32 × Mem)) => run C_X2_lineUp 4 (15, [some (.ref 2), some (.long v1), none, some (.ref 6), some (.int a1.1), some (.int a1.2.1)], [], a1.2.2, 0)) = (fun (v1 : Int64) (a1 : (Int32 × Int32 × Mem)) => some (.inl ((br (decide ((d_X7_has v1 a1.2.1) = 0)) 21 3 (14)), [some (.ref 2), some (.long v1), none, some (.ref 6), some (.int a1.1), some (.int a1.2.1)], [], a1.2.2, 0))) := by rfl
set_option maxRecDepth 100000 in
theorem b_X2_lineUp_k6_3 : (fun (v1 : Int64) (a1 : (Int32 × Int32 × Mem)) => run C_X2_lineUp 5 (24, [some (.ref 2), some (.long v1), none, some (.ref 6), some (.int a1.1), some (.int a1.2.1)], [], a1.2.2, 0)) = (fun (v1 : Int64) (a1 : (Int32 × Int32 × Mem)) => some (.inl (35, [some (.ref 2), some (.long v1), none, some (.ref 6), some (.int (a1.1 + (1 : Int32))), some (.int a1.2.1)], [], ((d_X7_lay 6 6 a1.1 a1.2.1) a1.2.2), 0))) := by rfl
theorem m_X2_lineUp_k6_0 (v1 : Int64) (a1 : (Int32 × Int32 × Mem)) : Rto C_X2_lineUp (15, [some (.ref 2), some (.long v1), none, some (.ref 6), some (.int a1.1), some (.int a1.2.1)], [], a1.2.2, 0) (35, [some (.ref 2), some (.long v1), none, some (.ref 6), some (.int (if (d_X7_has v1 a1.2.1) = 0 then a1.1 else (a1.1 + (1 : Int32)))), some (.int a1.2.1)], [], (if (d_X7_has v1 a1.2.1) = 0 then a1.2.2 else ((d_X7_lay 6 6 a1.1 a1.2.1) a1.2.2)), 0) := by
  refine Rto.trans (Rto.run 4 (congrFun (congrFun b_X2_lineUp_k6_2 v1) a1)) ?_
  by_cases h : (d_X7_has v1 a1.2.1) = 0
  · refine Rto.trans (Rto.brT (q := 35) h rfl) ?_
    exact Rto.eq (by first | (simp only [if_pos h]; done) | rfl | exact absurd rfl h | (simp; done))
  · refine Rto.trans (Rto.brF (q := 24) h rfl) ?_
    refine Rto.trans (Rto.run 5 (congrFun (congrFun b_X2_lineUp_k6_3 v1) a1)) ?_
    exact Rto.eq (by first | (simp only [if_neg h]; done) | rfl | exact absurd rfl h | (simp; done))
set_option maxRecDepth 100000 in
theorem b_X2_lineUp_k6_4 : (fun (v1 : Int64) (a1 : (Int32 × Int32 × Mem)) => run C_X2_lineUp 2 (35, [some (.ref 2), some (.long v1), none, some (.ref 6), some (.int (if (d_X7_has v1 a1.2.1) = 0 then a1.1 else (a1.1 + (1 : Int32)))), some (.int a1.2.1)], [], (if (d_X7_has v1 a1.2.1) = 0 then a1.2.2 else ((d_X7_lay 6 6 a1.1 a1.2.1) a1.2.2)), 0)) = (fun (v1 : Int64) (a1 : (Int32 × Int32 × Mem)) => some (.inl (6, [some (.ref 2), some (.long v1), none, some (.ref 6), some (.int (if (d_X7_has v1 a1.2.1) = 0 then a1.1 else (a1.1 + (1 : Int32)))), some (.int (a1.2.1 + (1 : Int32)))], [], (if (d_X7_has v1 a1.2.1) = 0 then a1.2.2 else ((d_X7_lay 6 6 a1.1 a1.2.1) a1.2.2)), 0))) := by rfl
def g_X2_lineUp_k6_1 (v1 : Int64) : Int32 × Int32 × Mem → Option ((Int32 × Int32 × Mem) ⊕ ((Int32 × Int32 × Mem) ⊕ (Res × Mem))) := fun (a1 : Int32 × Int32 × Mem) => (if a1.2.1 < (a1.2.2.1 2 2) then some (.inl ((if (d_X7_has v1 a1.2.1) = 0 then a1.1 else (a1.1 + (1 : Int32))), (a1.2.1 + (1 : Int32)), (if (d_X7_has v1 a1.2.1) = 0 then a1.2.2 else ((d_X7_lay 6 6 a1.1 a1.2.1) a1.2.2)))) else some (.inr (.inl (a1.1, a1.2.1, a1.2.2))))
set_option maxHeartbeats 2000000 in
theorem l_X2_lineUp_k6_1 (v1 : Int64) (M : Mem) : ∀ a1 : Int32 × Int32 × Mem, RG C_X2_lineUp ((fun (a1 : Int32 × Int32 × Mem) => (6, [some (.ref 2), some (.long v1), none, some (.ref 6), some (.int a1.1), some (.int a1.2.1)], [], a1.2.2, 0)) a1) (g_X2_lineUp_k6_1 v1 a1) (lpP (fun (a1 : Int32 × Int32 × Mem) => (6, [some (.ref 2), some (.long v1), none, some (.ref 6), some (.int a1.1), some (.int a1.2.1)], [], a1.2.2, 0)) (fun (a1 : Int32 × Int32 × Mem) => (41, [some (.ref 2), some (.long v1), none, some (.ref 6), some (.int a1.1), some (.int a1.2.1)], [], a1.2.2, 0)) id) := by
  intro a1
  unfold g_X2_lineUp_k6_1
  show RG C_X2_lineUp (6, [some (.ref 2), some (.long v1), none, some (.ref 6), some (.int a1.1), some (.int a1.2.1)], [], a1.2.2, 0) _ _
  refine RG.st 4 (congrFun (congrFun b_X2_lineUp_k6_1 v1) a1) ?_
  refine RG.ite (fun h1 => RG.brNF (q := 15) h1 rfl ?_) (fun h1 => RG.brNT (q := 41) h1 rfl ?_)
  · refine RG.step (m_X2_lineUp_k6_0 v1 a1) ?_
    refine RG.st 2 (congrFun (congrFun b_X2_lineUp_k6_4 v1) a1) ?_
    exact RG.to rfl (Rto.refl _)
  · exact RG.to rfl (Rto.refl _)
set_option maxRecDepth 100000 in
theorem b_X2_lineUp_k6_5 : (fun (v1 : Int64) (a2 : (Int32 × Int32 × Mem)) => run C_X2_lineUp 2 (41, [some (.ref 2), some (.long v1), none, some (.ref 6), some (.int a2.1), some (.int a2.2.1)], [], a2.2.2, 0)) = (fun (v1 : Int64) (a2 : (Int32 × Int32 × Mem)) => some (.inr (.inl (some (.int a2.1)), a2.2.2, 0))) := by rfl
def d_X2_lineUp_k6 (v1 : Int64) (M : Mem) : Option (Res × Mem) := (onIt (iter (g_X2_lineUp_k6_1 v1) 20000 ((0 : Int32), (0 : Int32), M)) (fun (a2 : Int32 × Int32 × Mem) => some (.inl (some (.int a2.1)), a2.2.2)) (fun r => some r))
set_option maxHeartbeats 2000000 in
theorem r_X2_lineUp_k6 (v1 : Int64) (M : Mem) : RG C_X2_lineUp (0, [some (.ref 2), some (.long v1), none, some (.ref 6), none, none], [], M, 0) (d_X2_lineUp_k6 v1 M) (fun r => .inr r) := by
  unfold d_X2_lineUp_k6
  refine RG.st 4 (congrFun (congrFun b_X2_lineUp_k6_0 v1) M) ?_
  refine RG.loop (hd := (fun (a1 : Int32 × Int32 × Mem) => (6, [some (.ref 2), some (.long v1), none, some (.ref 6), some (.int a1.1), some (.int a1.2.1)], [], a1.2.2, 0))) (ex := (fun (a1 : Int32 × Int32 × Mem) => (41, [some (.ref 2), some (.long v1), none, some (.ref 6), some (.int a1.1), some (.int a1.2.1)], [], a1.2.2, 0))) (rt := id) (l_X2_lineUp_k6_1 v1 M) (fun a2 => ?_) (fun r v h => by cases h; rfl)
  show RG C_X2_lineUp (41, [some (.ref 2), some (.long v1), none, some (.ref 6), some (.int a2.1), some (.int a2.2.1)], [], a2.2.2, 0) _ _
  exact RG.fin rfl (Rend.run 2 (congrFun (congrFun b_X2_lineUp_k6_5 v1) a2))
def fn_X2_lineUp : Fn := fun av M => match av with
  | [.ref r0, .long v1, .ref r3] => bif Nat.beq r0 2 && Nat.beq r3 5 then (d_X2_lineUp_k5 v1 M) else (bif Nat.beq r0 2 && Nat.beq r3 6 then (d_X2_lineUp_k6 v1 M) else (none))
  | _ => none
theorem cfg_X2_lineUp : CfgOK RX2 cX2_lineUp (C_X2_lineUp) 2 := ⟨tk_X2_lineUp, csF_nd, flk_X2, (List.forall_mem_cons.mpr ⟨Or.inr ⟨yX7_has, cX7_has, 3, (some .boolean), none, 1, ok_X7_has, by decide, by decide, w_code_Sumsetry_has__JI_Z, w_initialized_Sumsetry, ⟨by decide, by decide⟩, Or.inr (Or.inl ⟨rfl, rfl, show (parseMethodDescriptor yX7_has.desc).map (fun d => d.parameters.length) = some 2 from by decide +kernel, ⟨"Sumsetry", by decide +kernel⟩, w_static_Sumsetry_has__JI_Z⟩)⟩,
    List.forall_mem_cons.mpr ⟨Or.inr ⟨yX7_lay, cX7_lay, 3, none, none, 1, ok_X7_lay, by decide, by decide, w_code_Sumsetry_lay___III_V, w_initialized_Sumsetry, ⟨by decide, by decide⟩, Or.inr (Or.inl ⟨rfl, rfl, show (parseMethodDescriptor yX7_lay.desc).map (fun d => d.parameters.length) = some 3 from by decide +kernel, ⟨"Sumsetry", by decide +kernel⟩, w_static_Sumsetry_lay___III_V⟩)⟩, fun _ h => absurd h List.not_mem_nil⟩⟩), ink_X2, lgk_X2, fun e h => absurd h List.not_mem_nil, (fun h hh => absurd hh List.not_mem_nil)⟩
theorem ok_X2_lineUp : OkM csF yX2_lineUp (Cond.code yX2_lineUp cX2_lineUp 6 (some .int)) 2 0 fn_X2_lineUp :=
  OkM_of (own := RX2) (C := C_X2_lineUp) (by decide +kernel) rfl (cfg_X2_lineUp) rfl rfl rfl rfl (by
    intro av M o M' h
    unfold fn_X2_lineUp at h
    split at h
    · rename_i r0 v1 r3
      rcases bif_cs h with ⟨hb, h⟩ | ⟨-, h⟩
      · simp only [Bool.and_eq_true] at hb
        obtain ⟨hr0, hr1⟩ := hb
        obtain rfl := Nat.eq_of_beq_eq_true hr0
        obtain rfl := Nat.eq_of_beq_eq_true hr1
        exact ⟨rfl, Nat.le_of_ble_eq_true rfl, (r_X2_lineUp_k5 v1 M) (o, M') h⟩
      · rcases bif_cs h with ⟨hb, h⟩ | ⟨-, h⟩
        · simp only [Bool.and_eq_true] at hb
          obtain ⟨hr0, hr1⟩ := hb
          obtain rfl := Nat.eq_of_beq_eq_true hr0
          obtain rfl := Nat.eq_of_beq_eq_true hr1
          exact ⟨rfl, Nat.le_of_ble_eq_true rfl, (r_X2_lineUp_k6 v1 M) (o, M') h⟩
        · cases h
    · cases h)
def t_X2_lastLow : List (Nat × Instr × Nat) := [(0, .aload_n 0, 1), (1, .getfield 41, 3), (4, .iconst 3, 1), (5, .if_icmp .ne 7, 3), (8, .iload_n 1, 1), (9, .goto 4, 3), (12, .iconst 0, 1), (13, .ireturn, 1)]
theorem tk_X2_lastLow : ∀ x ∈ t_X2_lastLow, decode cX2_lastLow x.1 = .ok x.2 := by decide +kernel
def C_X2_lastLow : Cfg := (t_X2_lastLow, csF, fl_X2, [], in_X2, lg_X2, [], [], none, (some .int), 0)
set_option maxRecDepth 100000 in
theorem b_X2_lastLow_0 : (fun (v1 : Int32) (M : Mem) => run C_X2_lastLow 4 (0, [some (.ref 4), some (.int v1)], [], M, 0)) = (fun (v1 : Int32) (M : Mem) => some (.inl ((br (!decide ((M.1 4 8) = (3 : Int32))) 5 3 (7)), [some (.ref 4), some (.int v1)], [], M, 0))) := by rfl
set_option maxRecDepth 100000 in
theorem b_X2_lastLow_1 : (fun (v1 : Int32) (M : Mem) => run C_X2_lastLow 3 (8, [some (.ref 4), some (.int v1)], [], M, 0)) = (fun (v1 : Int32) (M : Mem) => some (.inr (.inl (some (.int v1)), M, 0))) := by rfl
set_option maxRecDepth 100000 in
theorem b_X2_lastLow_2 : (fun (v1 : Int32) (M : Mem) => run C_X2_lastLow 2 (12, [some (.ref 4), some (.int v1)], [], M, 0)) = (fun (v1 : Int32) (M : Mem) => some (.inr (.inl (some (.int (0 : Int32))), M, 0))) := by rfl
def d_X2_lastLow (v1 : Int32) (M : Mem) : Int32 := (if (M.1 4 8) = (3 : Int32) then v1 else (0 : Int32))
set_option maxHeartbeats 2000000 in
theorem r_X2_lastLow (v1 : Int32) (M : Mem) : RG C_X2_lastLow (0, [some (.ref 4), some (.int v1)], [], M, 0) (some (d_X2_lastLow v1 M)) (fun v => .inr (.inl (some (.int v)), M)) := by
  unfold d_X2_lastLow
  refine RG.st 4 (congrFun (congrFun b_X2_lastLow_0 v1) M) ?_
  refine RG.ites (fun h1 => RG.brNF (q := 8) h1 rfl ?_) (fun h1 => RG.brNT (q := 12) h1 rfl ?_)
  · exact RG.fin rfl (Rend.run 3 (congrFun (congrFun b_X2_lastLow_1 v1) M))
  · exact RG.fin rfl (Rend.run 2 (congrFun (congrFun b_X2_lastLow_2 v1) M))
def fn_X2_lastLow : Fn := fun av M => match av with
  | [.ref r0, .int v1] => bif Nat.beq r0 4 then some (.inl (some (.int (d_X2_lastLow v1 M))), M) else (none)
  | _ => none
theorem cfg_X2_lastLow : CfgOK RX2 cX2_lastLow (C_X2_lastLow) 1 := ⟨tk_X2_lastLow, csF_nd, flk_X2, (fun e h => absurd h List.not_mem_nil), ink_X2, lgk_X2, fun e h => absurd h List.not_mem_nil, (fun h hh => absurd hh List.not_mem_nil)⟩
theorem ok_X2_lastLow : OkM csF yX2_lastLow (Cond.code yX2_lastLow cX2_lastLow 2 (some .int)) 1 0 fn_X2_lastLow :=
  OkM_of (own := RX2) (C := C_X2_lastLow) (by decide +kernel) rfl (cfg_X2_lastLow) rfl rfl rfl rfl (by
    intro av M o M' h
    unfold fn_X2_lastLow at h
    split at h
    · rename_i r0 v1
      rcases bif_cs h with ⟨hb, h⟩ | ⟨-, h⟩
      · skip
        have hr0 := hb
        obtain rfl := Nat.eq_of_beq_eq_true hr0
        cases h
        exact ⟨rfl, Nat.le_of_ble_eq_true rfl, (r_X2_lastLow v1 M) _ rfl⟩
      · cases h
    · cases h)
def t_X2_sumOf : List (Nat × Instr × Nat) := [(0, .aload_n 1, 1), (1, .aload_n 2, 1), (2, .iload_n 3, 1), (3, .invokestatic 55, 3), (6, .aload_n 2, 1), (7, .iload 4, 2), (9, .invokestatic 55, 3), (12, .invokevirtual 96, 3), (15, .istore 6, 2), (17, .aload_n 0, 1), (18, .getfield 41, 3), (21, .iconst 3, 1), (22, .if_icmp .ne 18, 3), (25, .aload_n 1, 1), (26, .iload 6, 2), (28, .aload_n 2, 1), (29, .iload 5, 2), (31, .invokestatic 55, 3), (34, .invokevirtual 96, 3), (37, .goto 5, 3), (40, .iload 6, 2), (42, .ireturn, 1)]
theorem tk_X2_sumOf : ∀ x ∈ t_X2_sumOf, decode cX2_sumOf x.1 = .ok x.2 := by decide +kernel
def C_X2_sumOf : Cfg := (t_X2_sumOf, csF, fl_X2, [(55, 1, 5, 2, 0, fn_X7_at), (96, 2, 1, 3, 0, fn_X1_plus)], in_X2, lg_X2, [], [], none, (some .int), 0)
set_option maxRecDepth 100000 in
theorem b_X2_sumOf_k5_0 : (fun (v3 : Int32) (v4 : Int32) (v5 : Int32) (M : Mem) => run C_X2_sumOf 13 (0, [some (.ref 4), some (.ref 2), some (.ref 5), some (.int v3), some (.int v4), some (.int v5), none], [], M, 0)) = (fun (v3 : Int32) (v4 : Int32) (v5 : Int32) (M : Mem) => some (.inl ((br (!decide ((M.1 4 8) = (3 : Int32))) 22 3 (18)), [some (.ref 4), some (.ref 2), some (.ref 5), some (.int v3), some (.int v4), some (.int v5), some (.int (d_X1_plus (d_X7_at 5 6 v3 M) (d_X7_at 5 6 v4 M) M))], [], M, 0))) := by rfl
set_option maxRecDepth 100000 in
theorem b_X2_sumOf_k5_1 : (fun (v3 : Int32) (v4 : Int32) (v5 : Int32) (M : Mem) => run C_X2_sumOf 8 (25, [some (.ref 4), some (.ref 2), some (.ref 5), some (.int v3), some (.int v4), some (.int v5), some (.int (d_X1_plus (d_X7_at 5 6 v3 M) (d_X7_at 5 6 v4 M) M))], [], M, 0)) = (fun (v3 : Int32) (v4 : Int32) (v5 : Int32) (M : Mem) => some (.inr (.inl (some (.int (d_X1_plus (d_X1_plus (d_X7_at 5 6 v3 M) (d_X7_at 5 6 v4 M) M) (d_X7_at 5 6 v5 M) M))), M, 0))) := by rfl
set_option maxRecDepth 100000 in
theorem b_X2_sumOf_k5_2 : (fun (v3 : Int32) (v4 : Int32) (v5 : Int32) (M : Mem) => run C_X2_sumOf 2 (40, [some (.ref 4), some (.ref 2), some (.ref 5), some (.int v3), some (.int v4), some (.int v5), some (.int (d_X1_plus (d_X7_at 5 6 v3 M) (d_X7_at 5 6 v4 M) M))], [], M, 0)) = (fun (v3 : Int32) (v4 : Int32) (v5 : Int32) (M : Mem) => some (.inr (.inl (some (.int (d_X1_plus (d_X7_at 5 6 v3 M) (d_X7_at 5 6 v4 M) M))), M, 0))) := by rfl
def d_X2_sumOf_k5 (v3 : Int32) (v4 : Int32) (v5 : Int32) (M : Mem) : Int32 := (if (M.1 4 8) = (3 : Int32) then (d_X1_plus (d_X1_plus (d_X7_at 5 6 v3 M) (d_X7_at 5 6 v4 M) M) (d_X7_at 5 6 v5 M) M) else (d_X1_plus (d_X7_at 5 6 v3 M) (d_X7_at 5 6 v4 M) M))
set_option maxHeartbeats 2000000 in
theorem r_X2_sumOf_k5 (v3 : Int32) (v4 : Int32) (v5 : Int32) (M : Mem) : RG C_X2_sumOf (0, [some (.ref 4), some (.ref 2), some (.ref 5), some (.int v3), some (.int v4), some (.int v5), none], [], M, 0) (some (d_X2_sumOf_k5 v3 v4 v5 M)) (fun v => .inr (.inl (some (.int v)), M)) := by
  unfold d_X2_sumOf_k5
  refine RG.st 13 (congrFun (congrFun (congrFun (congrFun b_X2_sumOf_k5_0 v3) v4) v5) M) ?_
  refine RG.ites (fun h1 => RG.brNF (q := 25) h1 rfl ?_) (fun h1 => RG.brNT (q := 40) h1 rfl ?_)
  · exact RG.fin rfl (Rend.run 8 (congrFun (congrFun (congrFun (congrFun b_X2_sumOf_k5_1 v3) v4) v5) M))
  · exact RG.fin rfl (Rend.run 2 (congrFun (congrFun (congrFun (congrFun b_X2_sumOf_k5_2 v3) v4) v5) M))
set_option maxRecDepth 100000 in
theorem b_X2_sumOf_k7_0 : (fun (v3 : Int32) (v4 : Int32) (v5 : Int32) (M : Mem) => run C_X2_sumOf 13 (0, [some (.ref 4), some (.ref 2), some (.ref 7), some (.int v3), some (.int v4), some (.int v5), none], [], M, 0)) = (fun (v3 : Int32) (v4 : Int32) (v5 : Int32) (M : Mem) => some (.inl ((br (!decide ((M.1 4 8) = (3 : Int32))) 22 3 (18)), [some (.ref 4), some (.ref 2), some (.ref 7), some (.int v3), some (.int v4), some (.int v5), some (.int (d_X1_plus (d_X7_at 7 6 v3 M) (d_X7_at 7 6 v4 M) M))], [], M, 0))) := by rfl
set_option maxRecDepth 100000 in
theorem b_X2_sumOf_k7_1 : (fun (v3 : Int32) (v4 : Int32) (v5 : Int32) (M : Mem) => run C_X2_sumOf 8 (25, [some (.ref 4), some (.ref 2), some (.ref 7), some (.int v3), some (.int v4), some (.int v5), some (.int (d_X1_plus (d_X7_at 7 6 v3 M) (d_X7_at 7 6 v4 M) M))], [], M, 0)) = (fun (v3 : Int32) (v4 : Int32) (v5 : Int32) (M : Mem) => some (.inr (.inl (some (.int (d_X1_plus (d_X1_plus (d_X7_at 7 6 v3 M) (d_X7_at 7 6 v4 M) M) (d_X7_at 7 6 v5 M) M))), M, 0))) := by rfl
set_option maxRecDepth 100000 in
theorem b_X2_sumOf_k7_2 : (fun (v3 : Int32) (v4 : Int32) (v5 : Int32) (M : Mem) => run C_X2_sumOf 2 (40, [some (.ref 4), some (.ref 2), some (.ref 7), some (.int v3), some (.int v4), some (.int v5), some (.int (d_X1_plus (d_X7_at 7 6 v3 M) (d_X7_at 7 6 v4 M) M))], [], M, 0)) = (fun (v3 : Int32) (v4 : Int32) (v5 : Int32) (M : Mem) => some (.inr (.inl (some (.int (d_X1_plus (d_X7_at 7 6 v3 M) (d_X7_at 7 6 v4 M) M))), M, 0))) := by rfl
def d_X2_sumOf_k7 (v3 : Int32) (v4 : Int32) (v5 : Int32) (M : Mem) : Int32 := (if (M.1 4 8) = (3 : Int32) then (d_X1_plus (d_X1_plus (d_X7_at 7 6 v3 M) (d_X7_at 7 6 v4 M) M) (d_X7_at 7 6 v5 M) M) else (d_X1_plus (d_X7_at 7 6 v3 M) (d_X7_at 7 6 v4 M) M))
set_option maxHeartbeats 2000000 in
theorem r_X2_sumOf_k7 (v3 : Int32) (v4 : Int32) (v5 : Int32) (M : Mem) : RG C_X2_sumOf (0, [some (.ref 4), some (.ref 2), some (.ref 7), some (.int v3), some (.int v4), some (.int v5), none], [], M, 0) (some (d_X2_sumOf_k7 v3 v4 v5 M)) (fun v => .inr (.inl (some (.int v)), M)) := by
  unfold d_X2_sumOf_k7
  refine RG.st 13 (congrFun (congrFun (congrFun (congrFun b_X2_sumOf_k7_0 v3) v4) v5) M) ?_
  refine RG.ites (fun h1 => RG.brNF (q := 25) h1 rfl ?_) (fun h1 => RG.brNT (q := 40) h1 rfl ?_)
  · exact RG.fin rfl (Rend.run 8 (congrFun (congrFun (congrFun (congrFun b_X2_sumOf_k7_1 v3) v4) v5) M))
  · exact RG.fin rfl (Rend.run 2 (congrFun (congrFun (congrFun (congrFun b_X2_sumOf_k7_2 v3) v4) v5) M))
def fn_X2_sumOf : Fn := fun av M => match av with
  | [.ref r0, .ref r1, .ref r2, .int v3, .int v4, .int v5] => bif Nat.beq r0 4 && Nat.beq r1 2 && Nat.beq r2 5 then some (.inl (some (.int (d_X2_sumOf_k5 v3 v4 v5 M))), M) else (bif Nat.beq r0 4 && Nat.beq r1 2 && Nat.beq r2 7 then some (.inl (some (.int (d_X2_sumOf_k7 v3 v4 v5 M))), M) else (none))
  | _ => none
theorem cfg_X2_sumOf : CfgOK RX2 cX2_sumOf (C_X2_sumOf) 3 := ⟨tk_X2_sumOf, csF_nd, flk_X2, (List.forall_mem_cons.mpr ⟨Or.inr ⟨yX7_at, cX7_at, 2, (some .int), none, 1, ok_X7_at, by decide, by decide, w_code_Sumsetry_at___II_I, w_initialized_Sumsetry, ⟨by decide, by decide⟩, Or.inr (Or.inl ⟨rfl, rfl, show (parseMethodDescriptor yX7_at.desc).map (fun d => d.parameters.length) = some 2 from by decide +kernel, ⟨"Sumsetry", by decide +kernel⟩, w_static_Sumsetry_at___II_I⟩)⟩,
    List.forall_mem_cons.mpr ⟨Or.inr ⟨yX1_plus, cX1_plus, 5, (some .int), none, 2, ok_X1_plus, by decide, by decide, w_code_Sumsetry_Group_plus__II_I, w_initialized_Sumsetry_Group, ⟨by decide, by decide⟩, Or.inr (Or.inr ⟨rfl, rfl, show (parseMethodDescriptor yX1_plus.desc).map (fun d => d.parameters.length + 1) = some 3 from by decide +kernel, w_methodLink_Sumsetry_Maps_96, w_instanceMethod_Sumsetry_Group_plus__II_I, w_selects_Sumsetry_Group_plus__II_I, ⟨_, rfl, rfl⟩⟩)⟩, fun _ h => absurd h List.not_mem_nil⟩⟩), ink_X2, lgk_X2, fun e h => absurd h List.not_mem_nil, (fun h hh => absurd hh List.not_mem_nil)⟩
theorem ok_X2_sumOf : OkM csF yX2_sumOf (Cond.code yX2_sumOf cX2_sumOf 7 (some .int)) 3 0 fn_X2_sumOf :=
  OkM_of (own := RX2) (C := C_X2_sumOf) (by decide +kernel) rfl (cfg_X2_sumOf) rfl rfl rfl rfl (by
    intro av M o M' h
    unfold fn_X2_sumOf at h
    split at h
    · rename_i r0 r1 r2 v3 v4 v5
      rcases bif_cs h with ⟨hb, h⟩ | ⟨-, h⟩
      · simp only [Bool.and_eq_true] at hb
        obtain ⟨⟨hr0, hr1⟩, hr2⟩ := hb
        obtain rfl := Nat.eq_of_beq_eq_true hr0
        obtain rfl := Nat.eq_of_beq_eq_true hr1
        obtain rfl := Nat.eq_of_beq_eq_true hr2
        cases h
        exact ⟨rfl, Nat.le_of_ble_eq_true rfl, (r_X2_sumOf_k5 v3 v4 v5 M) _ rfl⟩
      · rcases bif_cs h with ⟨hb, h⟩ | ⟨-, h⟩
        · simp only [Bool.and_eq_true] at hb
          obtain ⟨⟨hr0, hr1⟩, hr2⟩ := hb
          obtain rfl := Nat.eq_of_beq_eq_true hr0
          obtain rfl := Nat.eq_of_beq_eq_true hr1
          obtain rfl := Nat.eq_of_beq_eq_true hr2
          cases h
          exact ⟨rfl, Nat.le_of_ble_eq_true rfl, (r_X2_sumOf_k7 v3 v4 v5 M) _ rfl⟩
        · cases h
    · cases h)
