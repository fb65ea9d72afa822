/-! methods: X1_lessOf, X1_mirrored, X4_hasNoSteps, X4_isApart, X4_hold, X7_has, X0_leadsToLost, X0_isLost, X7_lay -/
def t_X1_lessOf : List (Nat × Instr × Nat) := [(0, .aload_n 0, 1), (1, .getfield 9, 3), (4, .iload_n 1, 1), (5, .invokestatic 59, 3), (8, .ireturn, 1)]
theorem tk_X1_lessOf : ∀ x ∈ t_X1_lessOf, decode cX1_lessOf x.1 = .ok x.2 := by decide +kernel
def C_X1_lessOf : Cfg := (t_X1_lessOf, csF, fl_X1, [(59, 1, 5, 2, 0, fn_X7_at)], in_X1, lg_X1, [], [], none, (some .int), 0)
set_option maxRecDepth 100000 in
theorem b_X1_lessOf_0 : (fun (v1 : Int32) (M : Mem) => run C_X1_lessOf 5 (0, [some (.ref 2), some (.int v1)], [], M, 0)) = (fun (v1 : Int32) (M : Mem) => some (.inr (.inl (some (.int (d_X7_at 3 36 v1 M))), M, 0))) := by rfl
def d_X1_lessOf (v1 : Int32) (M : Mem) : Int32 := (d_X7_at 3 36 v1 M)
set_option maxHeartbeats 2000000 in
theorem r_X1_lessOf (v1 : Int32) (M : Mem) : RG C_X1_lessOf (0, [some (.ref 2), some (.int v1)], [], M, 0) (some (d_X1_lessOf v1 M)) (fun v => .inr (.inl (some (.int v)), M)) := by
  unfold d_X1_lessOf
  exact RG.fin rfl (Rend.run 5 (congrFun (congrFun b_X1_lessOf_0 v1) M))
def fn_X1_lessOf : Fn := fun av M => match av with
  | [.ref r0, .int v1] => bif Nat.beq r0 2 then some (.inl (some (.int (d_X1_lessOf v1 M))), M) else (none)
  | _ => none
theorem cfg_X1_lessOf : CfgOK RX1 cX1_lessOf (C_X1_lessOf) 2 := ⟨tk_X1_lessOf, csF_nd, flk_X1, (List.forall_mem_cons.mpr ⟨Or.inr ⟨yX7_at, cX7_at, 2, (some .int), none, 1, ok_X7_at, by decide, by decide, w_code_Sumsetry_at___II_I, w_initialized_Sumsetry, ⟨by decide, by decide⟩, Or.inr (Or.inl ⟨rfl, rfl, show (parseMethodDescriptor yX7_at.desc).map (fun d => d.parameters.length) = some 2 from by decide +kernel, ⟨"Sumsetry", by decide +kernel⟩, w_static_Sumsetry_at___II_I⟩)⟩, fun _ h => absurd h List.not_mem_nil⟩), ink_X1, lgk_X1, fun e h => absurd h List.not_mem_nil, (fun h hh => absurd hh List.not_mem_nil)⟩
theorem ok_X1_lessOf : OkM csF yX1_lessOf (Cond.code yX1_lessOf cX1_lessOf 2 (some .int)) 2 0 fn_X1_lessOf :=
  OkM_of (own := RX1) (C := C_X1_lessOf) (by decide +kernel) rfl (cfg_X1_lessOf) rfl rfl rfl rfl (by
    intro av M o M' h
    unfold fn_X1_lessOf at h
    split at h
    · rename_i r0 v1
      rcases bif_cs h with ⟨hb, h⟩ | ⟨-, h⟩
      · skip
        have hr0 := hb
        obtain rfl := Nat.eq_of_beq_eq_true hr0
        cases h
        exact ⟨rfl, Nat.le_of_ble_eq_true rfl, (r_X1_lessOf v1 M) _ rfl⟩
      · cases h
    · cases h)
def t_X1_mirrored : List (Nat × Instr × Nat) := [(0, .lconst 0, 1), (1, .lstore_n 3, 1), (2, .lload_n 1, 1), (3, .lstore 5, 2), (5, .lload_n 1, 1), (6, .invokestatic 67, 3), (9, .istore 7, 2), (11, .iload 7, 2), (13, .ifCond .le 31, 3), (16, .lload_n 3, 1), (17, .aload_n 0, 1), (18, .lload 5, 2), (20, .invokestatic 73, 3), (23, .invokevirtual 76, 3), (26, .invokestatic 29, 3), (29, .lor, 1), (30, .lstore_n 3, 1), (31, .lload 5, 2), (33, .invokestatic 80, 3), (36, .lstore 5, 2), (38, .iinc 7 (-1), 3), (41, .goto (-30), 3), (44, .lload_n 3, 1), (45, .lreturn, 1)]
theorem tk_X1_mirrored : ∀ x ∈ t_X1_mirrored, decode cX1_mirrored x.1 = .ok x.2 := by decide +kernel
def C_X1_mirrored : Cfg := (t_X1_mirrored, csF, fl_X1, [(29, 1, 5, 1, 0, fn_X7_bit), (67, 0, 0, 1, 0, fn_J13_bitCount_95d88), (73, 1, 5, 1, 0, fn_X7_lowest), (76, 2, 1, 2, 0, fn_X1_lessOf), (80, 1, 5, 1, 0, fn_X7_withoutLowest)], in_X1, lg_X1, [], [], none, (some .long), 0)
set_option maxRecDepth 100000 in
theorem b_X1_mirrored_0 : (fun (v1 : Int64) (M : Mem) => run C_X1_mirrored 7 (0, [some (.ref 2), some (.long v1), none, none, none, none, none, none], [], M, 0)) = (fun (v1 : Int64) (M : Mem) => some (.inl (11, [some (.ref 2), some (.long v1), none, some (.long (0 : Int64)), none, some (.long v1), none, some (.int (d_J13_bitCount_95d88 v1))], [], M, 0))) := by rfl
set_option maxRecDepth 100000 in
theorem b_X1_mirrored_1 : (fun (v1 : Int64) (M : Mem) (a1 : (Int64 × Int64 × Int32)) => run C_X1_mirrored 2 (11, [some (.ref 2), some (.long v1), none, some (.long a1.1), none, some (.long a1.2.1), none, some (.int a1.2.2)], [], M, 0)) = (fun (v1 : Int64) (M : Mem) (a1 : (Int64 × Int64 × Int32)) => some (.inl ((br (decide (a1.2.2 ≤ 0)) 13 3 (31)), [some (.ref 2), some (.long v1), none, some (.long a1.1), none, some (.long a1.2.1), none, some (.int a1.2.2)], [], M, 0))) := by rfl
set_option maxRecDepth 100000 in
theorem b_X1_mirrored_2 : (fun (v1 : Int64) (M : Mem) (a1 : (Int64 × Int64 × Int32)) => run C_X1_mirrored 13 (16, [some (.ref 2), some (.long v1), none, some (.long a1.1), none, some (.long a1.2.1), none, some (.int a1.2.2)], [], M, 0)) = (fun (v1 : Int64) (M : Mem) (a1 : (Int64 × Int64 × Int32)) => some (.inl (11, [some (.ref 2), some (.long v1), none, some (.long (a1.1 ||| (d_X7_bit (d_X1_lessOf (d_X7_lowest a1.2.1) M)))), none, some (.long (d_X7_withoutLowest a1.2.1)), none, some (.int (a1.2.2 + (-1 : Int32)))], [], M, 0))) := by rfl
def g_X1_mirrored_1 (M : Mem) : Int64 × Int64 × Int32 → Option ((Int64 × Int64 × Int32) ⊕ ((Int64 × Int64 × Int32) ⊕ Int64)) := fun (a1 : Int64 × Int64 × Int32) => (if a1.2.2 ≤ 0 then some (.inr (.inl (a1.1, a1.2.1, a1.2.2))) else some (.inl ((a1.1 ||| (d_X7_bit (d_X1_lessOf (d_X7_lowest a1.2.1) M))), (d_X7_withoutLowest a1.2.1), (a1.2.2 + (-1 : Int32)))))
set_option maxHeartbeats 2000000 in
theorem l_X1_mirrored_1 (v1 : Int64) (M : Mem) : ∀ a1 : Int64 × Int64 × Int32, RG C_X1_mirrored ((fun (a1 : Int64 × Int64 × Int32) => (11, [some (.ref 2), some (.long v1), none, some (.long a1.1), none, some (.long a1.2.1), none, some (.int a1.2.2)], [], M, 0)) a1) (g_X1_mirrored_1 M a1) (lpP (fun (a1 : Int64 × Int64 × Int32) => (11, [some (.ref 2), some (.long v1), none, some (.long a1.1), none, some (.long a1.2.1), none, some (.int a1.2.2)], [], M, 0)) (fun (a1 : Int64 × Int64 × Int32) => (44, [some (.ref 2), some (.long v1), none, some (.long a1.1), none, some (.long a1.2.1), none, some (.int a1.2.2)], [], M, 0)) (fun (v : Int64) => (.inl (some (.long v)), M))) := by
  intro a1
  unfold g_X1_mirrored_1
  show RG C_X1_mirrored (11, [some (.ref 2), some (.long v1), none, some (.long a1.1), none, some (.long a1.2.1), none, some (.int a1.2.2)], [], M, 0) _ _
  refine RG.st 2 (congrFun (congrFun (congrFun b_X1_mirrored_1 v1) M) a1) ?_
  refine RG.ite (fun h1 => RG.brT (q := 44) h1 rfl ?_) (fun h1 => RG.brF (q := 16) h1 rfl ?_)
  · exact RG.to rfl (Rto.refl _)
  · refine RG.st 13 (congrFun (congrFun (congrFun b_X1_mirrored_2 v1) M) a1) ?_
    exact RG.to rfl (Rto.refl _)
set_option maxRecDepth 100000 in
theorem b_X1_mirrored_3 : (fun (v1 : Int64) (M : Mem) (a2 : (Int64 × Int64 × Int32)) => run C_X1_mirrored 2 (44, [some (.ref 2), some (.long v1), none, some (.long a2.1), none, some (.long a2.2.1), none, some (.int a2.2.2)], [], M, 0)) = (fun (v1 : Int64) (M : Mem) (a2 : (Int64 × Int64 × Int32)) => some (.inr (.inl (some (.long a2.1)), M, 0))) := by rfl
def d_X1_mirrored (v1 : Int64) (M : Mem) : Option Int64 := (onIt (iter (g_X1_mirrored_1 M) 20000 ((0 : Int64), v1, (d_J13_bitCount_95d88 v1))) (fun (a2 : Int64 × Int64 × Int32) => some a2.1) (fun r => some r))
set_option maxHeartbeats 2000000 in
theorem r_X1_mirrored (v1 : Int64) (M : Mem) : RG C_X1_mirrored (0, [some (.ref 2), some (.long v1), none, none, none, none, none, none], [], M, 0) (d_X1_mirrored v1 M) (fun v => .inr (.inl (some (.long v)), M)) := by
  unfold d_X1_mirrored
  refine RG.st 7 (congrFun (congrFun b_X1_mirrored_0 v1) M) ?_
  refine RG.loop (hd := (fun (a1 : Int64 × Int64 × Int32) => (11, [some (.ref 2), some (.long v1), none, some (.long a1.1), none, some (.long a1.2.1), none, some (.int a1.2.2)], [], M, 0))) (ex := (fun (a1 : Int64 × Int64 × Int32) => (44, [some (.ref 2), some (.long v1), none, some (.long a1.1), none, some (.long a1.2.1), none, some (.int a1.2.2)], [], M, 0))) (rt := (fun (v : Int64) => (.inl (some (.long v)), M))) (l_X1_mirrored_1 v1 M) (fun a2 => ?_) (fun r v h => by cases h; rfl)
  show RG C_X1_mirrored (44, [some (.ref 2), some (.long v1), none, some (.long a2.1), none, some (.long a2.2.1), none, some (.int a2.2.2)], [], M, 0) _ _
  exact RG.fin rfl (Rend.run 2 (congrFun (congrFun (congrFun b_X1_mirrored_3 v1) M) a2))
def fn_X1_mirrored : Fn := fun av M => match av with
  | [.ref r0, .long v1] => bif Nat.beq r0 2 then (d_X1_mirrored v1 M).bind fun v => some (.inl (some (.long v)), M) else (none)
  | _ => none
theorem cfg_X1_mirrored : CfgOK RX1 cX1_mirrored (C_X1_mirrored) 4 := ⟨tk_X1_mirrored, csF_nd, flk_X1, (List.forall_mem_cons.mpr ⟨Or.inr ⟨yX7_bit, cX7_bit, 1, (some .long), none, 1, ok_X7_bit, by decide, by decide, w_code_Sumsetry_bit__I_J, w_initialized_Sumsetry, ⟨by decide, by decide⟩, Or.inr (Or.inl ⟨rfl, rfl, show (parseMethodDescriptor yX7_bit.desc).map (fun d => d.parameters.length) = some 1 from by decide +kernel, ⟨"Sumsetry", by decide +kernel⟩, w_static_Sumsetry_bit__I_J⟩)⟩,
    List.forall_mem_cons.mpr ⟨Or.inr ⟨yJ13_bitCount_95d88, cJ13_bitCount_95d88, 2, (some .int), none, 1, ok_J13_bitCount_95d88, by decide, by decide, w_code_java_lang_Long_bitCount__J_I, w_initialized_java_lang_Long, ⟨by decide, by decide⟩, Or.inl ⟨rfl, show (parseMethodDescriptor yJ13_bitCount_95d88.desc).map (fun d => d.parameters.length) = some 1 from by decide +kernel, w_methodLink_Sumsetry_Group_67, w_static_java_lang_Long_bitCount__J_I⟩⟩,
    List.forall_mem_cons.mpr ⟨Or.inr ⟨yX7_lowest, cX7_lowest, 2, (some .int), none, 3, ok_X7_lowest, by decide, by decide, w_code_Sumsetry_lowest__J_I, w_initialized_Sumsetry, ⟨by decide, by decide⟩, Or.inr (Or.inl ⟨rfl, rfl, show (parseMethodDescriptor yX7_lowest.desc).map (fun d => d.parameters.length) = some 1 from by decide +kernel, ⟨"Sumsetry", by decide +kernel⟩, w_static_Sumsetry_lowest__J_I⟩)⟩,
    List.forall_mem_cons.mpr ⟨Or.inr ⟨yX1_lessOf, cX1_lessOf, 2, (some .int), none, 2, ok_X1_lessOf, by decide, by decide, w_code_Sumsetry_Group_lessOf__I_I, w_initialized_Sumsetry_Group, ⟨by decide, by decide⟩, Or.inr (Or.inr ⟨rfl, rfl, show (parseMethodDescriptor yX1_lessOf.desc).map (fun d => d.parameters.length + 1) = some 2 from by decide +kernel, w_methodLink_Sumsetry_Group_76, w_instanceMethod_Sumsetry_Group_lessOf__I_I, w_selects_Sumsetry_Group_lessOf__I_I, ⟨_, rfl, rfl⟩⟩)⟩,
    List.forall_mem_cons.mpr ⟨Or.inr ⟨yX7_withoutLowest, cX7_withoutLowest, 2, (some .long), none, 1, ok_X7_withoutLowest, by decide, by decide, w_code_Sumsetry_withoutLowest__J_J, w_initialized_Sumsetry, ⟨by decide, by decide⟩, Or.inr (Or.inl ⟨rfl, rfl, show (parseMethodDescriptor yX7_withoutLowest.desc).map (fun d => d.parameters.length) = some 1 from by decide +kernel, ⟨"Sumsetry", by decide +kernel⟩, w_static_Sumsetry_withoutLowest__J_J⟩)⟩, fun _ h => absurd h List.not_mem_nil⟩⟩⟩⟩⟩), ink_X1, lgk_X1, fun e h => absurd h List.not_mem_nil, (fun h hh => absurd hh List.not_mem_nil)⟩
theorem ok_X1_mirrored : OkM csF yX1_mirrored (Cond.code yX1_mirrored cX1_mirrored 8 (some .long)) 4 0 fn_X1_mirrored :=
  OkM_of (own := RX1) (C := C_X1_mirrored) (by decide +kernel) rfl (cfg_X1_mirrored) rfl rfl rfl rfl (by
    intro av M o M' h
    unfold fn_X1_mirrored at h
    split at h
    · rename_i r0 v1
      rcases bif_cs h with ⟨hb, h⟩ | ⟨-, h⟩
      · skip
        have hr0 := hb
        obtain rfl := Nat.eq_of_beq_eq_true hr0
        obtain ⟨w, hw, h⟩ := bind_cs h
        cases h
        exact ⟨rfl, Nat.le_of_ble_eq_true rfl, (r_X1_mirrored v1 M) w hw⟩
      · cases h
    · cases h)
def t_X4_hasNoSteps : List (Nat × Instr × Nat) := [(0, .aload_n 0, 1), (1, .lload_n 1, 1), (2, .invokevirtual 43, 3), (5, .lstore_n 3, 1), (6, .lload_n 1, 1), (7, .lstore 5, 2), (9, .lload_n 1, 1), (10, .invokestatic 24, 3), (13, .istore 7, 2), (15, .iload 7, 2), (17, .ifCond .le 68, 3), (20, .lload 5, 2), (22, .invokestatic 30, 3), (25, .istore 8, 2), (27, .aload_n 0, 1), (28, .aload_n 0, 1), (29, .lload_n 3, 1), (30, .iload 8, 2), (32, .invokevirtual 33, 3), (35, .iload 8, 2), (37, .invokevirtual 33, 3), (40, .lstore 9, 2), (42, .aload_n 0, 1), (43, .aload_n 0, 1), (44, .getfield 46, 3), (47, .iload 8, 2), (49, .invokevirtual 33, 3), (52, .lstore 11, 2), (54, .lload_n 1, 1), (55, .lload 9, 2), (57, .land, 1), (58, .lload 11, 2), (60, .ldc2_w 50, 3), (63, .lxor, 1), (64, .land, 1), (65, .lconst 0, 1), (66, .lcmp, 1), (67, .ifCond .eq 5, 3), (70, .iconst 0, 1), (71, .ireturn, 1), (72, .lload 5, 2), (74, .invokestatic 39, 3), (77, .lstore 5, 2), (79, .iinc 7 (-1), 3), (82, .goto (-67), 3), (85, .iconst 1, 1), (86, .ireturn, 1)]
theorem tk_X4_hasNoSteps : ∀ x ∈ t_X4_hasNoSteps, decode cX4_hasNoSteps x.1 = .ok x.2 := by decide +kernel
def C_X4_hasNoSteps : Cfg := (t_X4_hasNoSteps, csF, fl_X4, [(24, 0, 0, 1, 0, fn_J13_bitCount_95d88), (30, 1, 5, 1, 0, fn_X7_lowest), (33, 2, 1, 3, 0, fn_X1_shifted), (39, 1, 5, 1, 0, fn_X7_withoutLowest), (43, 2, 1, 2, 0, fn_X1_mirrored)], in_X4, lg_X4, [], [], none, (some .boolean), 0)
set_option maxRecDepth 100000 in
theorem b_X4_hasNoSteps_0 : (fun (v1 : Int64) (M : Mem) => run C_X4_hasNoSteps 2 (0, [some (.ref 2), some (.long v1), none, none, none, none, none, none, none, none, none, none, none], [], M, 0)) = (fun (v1 : Int64) (M : Mem) => some (.inl (2, [some (.ref 2), some (.long v1), none, none, none, none, none, none, none, none, none, none, none], [.long v1, .ref 2], M, 0))) := by rfl
set_option maxRecDepth 100000 in
theorem b_X4_hasNoSteps_1 : (fun (v1 : Int64) (M : Mem) (w1 : Int64) => run C_X4_hasNoSteps 6 (5, [some (.ref 2), some (.long v1), none, none, none, none, none, none, none, none, none, none, none], [.long w1], M, 0)) = (fun (v1 : Int64) (M : Mem) (w1 : Int64) => some (.inl (15, [some (.ref 2), some (.long v1), none, some (.long w1), none, some (.long v1), none, some (.int (d_J13_bitCount_95d88 v1)), none, none, none, none, none], [], M, 0))) := by rfl
set_option maxRecDepth 100000 in
theorem b_X4_hasNoSteps_2 : (fun (v1 : Int64) (M : Mem) (w1 : Int64) (a1 : (Int64 × Int32)) => run C_X4_hasNoSteps 2 (15, [some (.ref 2), some (.long v1), none, some (.long w1), none, some (.long a1.1), none, some (.int a1.2), none, none, none, none, none], [], M, 0)) = (fun (v1 : Int64) (M : Mem) (w1 : Int64) (a1 : (Int64 × Int32)) => some (.inl ((br (decide (a1.2 ≤ 0)) 17 3 (68)), [some (.ref 2), some (.long v1), none, some (.long w1), none, some (.long a1.1), none, some (.int a1.2), none, none, none, none, none], [], M, 0))) := by rfl
set_option maxRecDepth 100000 in
theorem b_X4_hasNoSteps_3 : (fun (v1 : Int64) (M : Mem) (w1 : Int64) (a1 : (Int64 × Int32)) => run C_X4_hasNoSteps 27 (20, [some (.ref 2), some (.long v1), none, some (.long w1), none, some (.long a1.1), none, some (.int a1.2), none, none, none, none, none], [], M, 0)) = (fun (v1 : Int64) (M : Mem) (w1 : Int64) (a1 : (Int64 × Int32)) => some (.inl ((br (decide ((lg_cmp ((v1 &&& (d_X1_shifted (d_X1_shifted w1 (d_X7_lowest a1.1) M) (d_X7_lowest a1.1) M)) &&& ((d_X1_shifted (M.2 2 5) (d_X7_lowest a1.1) M) ^^^ (-1 : Int64))) (0 : Int64)) = 0)) 67 3 (5)), [some (.ref 2), some (.long v1), none, some (.long w1), none, some (.long a1.1), none, some (.int a1.2), some (.int (d_X7_lowest a1.1)), some (.long (d_X1_shifted (d_X1_shifted w1 (d_X7_lowest a1.1) M) (d_X7_lowest a1.1) M)), none, some (.long (d_X1_shifted (M.2 2 5) (d_X7_lowest a1.1) M)), none], [], M, 0))) := by rfl
set_option maxRecDepth 100000 in
theorem b_X4_hasNoSteps_4 : (fun (v1 : Int64) (M : Mem) (w1 : Int64) (a1 : (Int64 × Int32)) => run C_X4_hasNoSteps 5 (72, [some (.ref 2), some (.long v1), none, some (.long w1), none, some (.long a1.1), none, some (.int a1.2), some (.int (d_X7_lowest a1.1)), some (.long (d_X1_shifted (d_X1_shifted w1 (d_X7_lowest a1.1) M) (d_X7_lowest a1.1) M)), none, some (.long (d_X1_shifted (M.2 2 5) (d_X7_lowest a1.1) M)), none], [], M, 0)) = (fun (v1 : Int64) (M : Mem) (w1 : Int64) (a1 : (Int64 × Int32)) => some (.inl (15, [some (.ref 2), some (.long v1), none, some (.long w1), none, some (.long (d_X7_withoutLowest a1.1)), none, some (.int (a1.2 + (-1 : Int32))), some (.int (d_X7_lowest a1.1)), some (.long (d_X1_shifted (d_X1_shifted w1 (d_X7_lowest a1.1) M) (d_X7_lowest a1.1) M)), none, some (.long (d_X1_shifted (M.2 2 5) (d_X7_lowest a1.1) M)), none], [], M, 0))) := by rfl
set_option maxRecDepth 100000 in
theorem b_X4_hasNoSteps_5 : (fun (v1 : Int64) (M : Mem) (w1 : Int64) (a1 : (Int64 × Int32)) => run C_X4_hasNoSteps 2 (70, [some (.ref 2), some (.long v1), none, some (.long w1), none, some (.long a1.1), none, some (.int a1.2), some (.int (d_X7_lowest a1.1)), some (.long (d_X1_shifted (d_X1_shifted w1 (d_X7_lowest a1.1) M) (d_X7_lowest a1.1) M)), none, some (.long (d_X1_shifted (M.2 2 5) (d_X7_lowest a1.1) M)), none], [], M, 0)) = (fun (v1 : Int64) (M : Mem) (w1 : Int64) (a1 : (Int64 × Int32)) => some (.inr (.inl (some (.int (0 : Int32))), M, 0))) := by rfl
def g_X4_hasNoSteps_1 (v1 : Int64) (M : Mem) (w1 : Int64) : Int64 × Int32 → Option ((Int64 × Int32) ⊕ ((Int64 × Int32) ⊕ Int32)) := fun (a1 : Int64 × Int32) => (if a1.2 ≤ 0 then some (.inr (.inl (a1.1, a1.2))) else (if (lg_cmp ((v1 &&& (d_X1_shifted (d_X1_shifted w1 (d_X7_lowest a1.1) M) (d_X7_lowest a1.1) M)) &&& ((d_X1_shifted (M.2 2 5) (d_X7_lowest a1.1) M) ^^^ (-1 : Int64))) (0 : Int64)) = 0 then some (.inl ((d_X7_withoutLowest a1.1), (a1.2 + (-1 : Int32)))) else some (.inr (.inr (0 : Int32)))))
set_option maxHeartbeats 2000000 in
theorem l_X4_hasNoSteps_1 (v1 : Int64) (M : Mem) (w1 : Int64) : ∀ a1 : Int64 × Int32, RG C_X4_hasNoSteps ((fun (a1 : Int64 × Int32) => (15, [some (.ref 2), some (.long v1), none, some (.long w1), none, some (.long a1.1), none, some (.int a1.2), none, none, none, none, none], [], M, 0)) a1) (g_X4_hasNoSteps_1 v1 M w1 a1) (lpP (fun (a1 : Int64 × Int32) => (15, [some (.ref 2), some (.long v1), none, some (.long w1), none, some (.long a1.1), none, some (.int a1.2), none, none, none, none, none], [], M, 0)) (fun (a1 : Int64 × Int32) => (85, [some (.ref 2), some (.long v1), none, some (.long w1), none, some (.long a1.1), none, some (.int a1.2), none, none, none, none, none], [], M, 0)) (fun (v : Int32) => (.inl (some (.int v)), M))) := by
  intro a1
  unfold g_X4_hasNoSteps_1
  show RG C_X4_hasNoSteps (15, [some (.ref 2), some (.long v1), none, some (.long w1), none, some (.long a1.1), none, some (.int a1.2), none, none, none, none, none], [], M, 0) _ _
  refine RG.st 2 (congrFun (congrFun (congrFun (congrFun b_X4_hasNoSteps_2 v1) M) w1) a1) ?_
  refine RG.ite (fun h2 => RG.brT (q := 85) h2 rfl ?_) (fun h2 => RG.brF (q := 20) h2 rfl ?_)
  · exact RG.to rfl (Rto.refl _)
  · refine RG.st 27 (congrFun (congrFun (congrFun (congrFun b_X4_hasNoSteps_3 v1) M) w1) a1) ?_
    refine RG.ite (fun h3 => RG.brT (q := 72) h3 rfl ?_) (fun h3 => RG.brF (q := 70) h3 rfl ?_)
    · refine RG.st 5 (congrFun (congrFun (congrFun (congrFun b_X4_hasNoSteps_4 v1) M) w1) a1) ?_
      exact RG.to rfl (Rto.fgt [8, 9, 11] rfl)
    · exact RG.fin rfl (Rend.run 2 (congrFun (congrFun (congrFun (congrFun b_X4_hasNoSteps_5 v1) M) w1) a1))
set_option maxRecDepth 100000 in
theorem b_X4_hasNoSteps_6 : (fun (v1 : Int64) (M : Mem) (w1 : Int64) (a2 : (Int64 × Int32)) => run C_X4_hasNoSteps 2 (85, [some (.ref 2), some (.long v1), none, some (.long w1), none, some (.long a2.1), none, some (.int a2.2), none, none, none, none, none], [], M, 0)) = (fun (v1 : Int64) (M : Mem) (w1 : Int64) (a2 : (Int64 × Int32)) => some (.inr (.inl (some (.int (1 : Int32))), M, 0))) := by rfl
def d_X4_hasNoSteps (v1 : Int64) (M : Mem) : Option Int32 := ((d_X1_mirrored v1 M).bind fun w1 => (onIt (iter (g_X4_hasNoSteps_1 v1 M w1) 20000 (v1, (d_J13_bitCount_95d88 v1))) (fun (a2 : Int64 × Int32) => some (1 : Int32)) (fun r => some r)))
set_option maxHeartbeats 2000000 in
theorem r_X4_hasNoSteps (v1 : Int64) (M : Mem) : RG C_X4_hasNoSteps (0, [some (.ref 2), some (.long v1), none, none, none, none, none, none, none, none, none, none, none], [], M, 0) (d_X4_hasNoSteps v1 M) (fun v => .inr (.inl (some (.int v)), M)) := by
  unfold d_X4_hasNoSteps
  refine RG.st 2 (congrFun (congrFun b_X4_hasNoSteps_0 v1) M) ?_
  refine RG.bind (fun w1 h1 => RG.st 1 (run_callV (v := some (.long w1)) rfl rfl rfl rfl rfl (bindL h1)) ?_)
  show RG C_X4_hasNoSteps (5, [some (.ref 2), some (.long v1), none, none, none, none, none, none, none, none, none, none, none], [.long w1], M, 0) _ _
  refine RG.st 6 (congrFun (congrFun (congrFun b_X4_hasNoSteps_1 v1) M) w1) ?_
  refine RG.loop (hd := (fun (a1 : Int64 × Int32) => (15, [some (.ref 2), some (.long v1), none, some (.long w1), none, some (.long a1.1), none, some (.int a1.2), none, none, none, none, none], [], M, 0))) (ex := (fun (a1 : Int64 × Int32) => (85, [some (.ref 2), some (.long v1), none, some (.long w1), none, some (.long a1.1), none, some (.int a1.2), none, none, none, none, none], [], M, 0))) (rt := (fun (v : Int32) => (.inl (some (.int v)), M))) (l_X4_hasNoSteps_1 v1 M w1) (fun a2 => ?_) (fun r v h => by cases h; rfl)
  show RG C_X4_hasNoSteps (85, [some (.ref 2), some (.long v1), none, some (.long w1), none, some (.long a2.1), none, some (.int a2.2), none, none, none, none, none], [], M, 0) _ _
  exact RG.fin rfl (Rend.run 2 (congrFun (congrFun (congrFun (congrFun b_X4_hasNoSteps_6 v1) M) w1) a2))
def fn_X4_hasNoSteps : Fn := fun av M => match av with
  | [.ref r0, .long v1] => bif Nat.beq r0 2 then (d_X4_hasNoSteps v1 M).bind fun v => some (.inl (some (.int v)), M) else (none)
  | _ => none
theorem cfg_X4_hasNoSteps : CfgOK RX4 cX4_hasNoSteps (C_X4_hasNoSteps) 5 := ⟨tk_X4_hasNoSteps, csF_nd, flk_X4, (List.forall_mem_cons.mpr ⟨Or.inr ⟨yJ13_bitCount_95d88, cJ13_bitCount_95d88, 2, (some .int), none, 1, ok_J13_bitCount_95d88, by decide, by decide, w_code_java_lang_Long_bitCount__J_I, w_initialized_java_lang_Long, ⟨by decide, by decide⟩, Or.inl ⟨rfl, show (parseMethodDescriptor yJ13_bitCount_95d88.desc).map (fun d => d.parameters.length) = some 1 from by decide +kernel, w_methodLink_Sumsetry_Rules_24, w_static_java_lang_Long_bitCount__J_I⟩⟩,
    List.forall_mem_cons.mpr ⟨Or.inr ⟨yX7_lowest, cX7_lowest, 2, (some .int), none, 3, ok_X7_lowest, by decide, by decide, w_code_Sumsetry_lowest__J_I, w_initialized_Sumsetry, ⟨by decide, by decide⟩, Or.inr (Or.inl ⟨rfl, rfl, show (parseMethodDescriptor yX7_lowest.desc).map (fun d => d.parameters.length) = some 1 from by decide +kernel, ⟨"Sumsetry", by decide +kernel⟩, w_static_Sumsetry_lowest__J_I⟩)⟩,
    List.forall_mem_cons.mpr ⟨Or.inr ⟨yX1_shifted, cX1_shifted, 10, (some .long), none, 2, ok_X1_shifted, by decide, by decide, w_code_Sumsetry_Group_shifted__JI_J, w_initialized_Sumsetry_Group, ⟨by decide, by decide⟩, Or.inr (Or.inr ⟨rfl, rfl, show (parseMethodDescriptor yX1_shifted.desc).map (fun d => d.parameters.length + 1) = some 3 from by decide +kernel, w_methodLink_Sumsetry_Rules_33, w_instanceMethod_Sumsetry_Group_shifted__JI_J, w_selects_Sumsetry_Group_shifted__JI_J, ⟨_, rfl, rfl⟩⟩)⟩,
    List.forall_mem_cons.mpr ⟨Or.inr ⟨yX7_withoutLowest, cX7_withoutLowest, 2, (some .long), none, 1, ok_X7_withoutLowest, by decide, by decide, w_code_Sumsetry_withoutLowest__J_J, w_initialized_Sumsetry, ⟨by decide, by decide⟩, Or.inr (Or.inl ⟨rfl, rfl, show (parseMethodDescriptor yX7_withoutLowest.desc).map (fun d => d.parameters.length) = some 1 from by decide +kernel, ⟨"Sumsetry", by decide +kernel⟩, w_static_Sumsetry_withoutLowest__J_J⟩)⟩,
    List.forall_mem_cons.mpr ⟨Or.inr ⟨yX1_mirrored, cX1_mirrored, 8, (some .long), none, 4, ok_X1_mirrored, by decide, by decide, w_code_Sumsetry_Group_mirrored__J_J, w_initialized_Sumsetry_Group, ⟨by decide, by decide⟩, Or.inr (Or.inr ⟨rfl, rfl, show (parseMethodDescriptor yX1_mirrored.desc).map (fun d => d.parameters.length + 1) = some 2 from by decide +kernel, w_methodLink_Sumsetry_Rules_43, w_instanceMethod_Sumsetry_Group_mirrored__J_J, w_selects_Sumsetry_Group_mirrored__J_J, ⟨_, rfl, rfl⟩⟩)⟩, fun _ h => absurd h List.not_mem_nil⟩⟩⟩⟩⟩), ink_X4, lgk_X4, fun e h => absurd h List.not_mem_nil, (fun h hh => absurd hh List.not_mem_nil)⟩
theorem ok_X4_hasNoSteps : OkM csF yX4_hasNoSteps (Cond.code yX4_hasNoSteps cX4_hasNoSteps 13 (some .boolean)) 5 0 fn_X4_hasNoSteps :=
  OkM_of (own := RX4) (C := C_X4_hasNoSteps) (by decide +kernel) rfl (cfg_X4_hasNoSteps) rfl rfl rfl rfl (by
    intro av M o M' h
    unfold fn_X4_hasNoSteps at h
    split at h
    · rename_i r0 v1
      rcases bif_cs h with ⟨hb, h⟩ | ⟨-, h⟩
      · skip
        have hr0 := hb
        obtain rfl := Nat.eq_of_beq_eq_true hr0
        obtain ⟨w, hw, h⟩ := bind_cs h
        cases h
        exact ⟨rfl, Nat.le_of_ble_eq_true rfl, (r_X4_hasNoSteps v1 M) w hw⟩
      · cases h
    · cases h)
def t_X4_isApart : List (Nat × Instr × Nat) := [(0, .lconst 1, 1), (1, .lstore_n 3, 1), (2, .lload_n 1, 1), (3, .lstore 5, 2), (5, .lload_n 1, 1), (6, .invokestatic 24, 3), (9, .istore 7, 2), (11, .iload 7, 2), (13, .ifCond .le 44, 3), (16, .aload_n 0, 1), (17, .lload_n 3, 1), (18, .lload 5, 2), (20, .invokestatic 30, 3), (23, .invokevirtual 33, 3), (26, .lstore 8, 2), (28, .lload 8, 2), (30, .lload_n 3, 1), (31, .land, 1), (32, .lconst 0, 1), (33, .lcmp, 1), (34, .ifCond .eq 5, 3), (37, .iconst 0, 1), (38, .ireturn, 1), (39, .lload_n 3, 1), (40, .lload 8, 2), (42, .lor, 1), (43, .lstore_n 3, 1), (44, .lload 5, 2), (46, .invokestatic 39, 3), (49, .lstore 5, 2), (51, .iinc 7 (-1), 3), (54, .goto (-43), 3), (57, .iconst 1, 1), (58, .ireturn, 1)]
theorem tk_X4_isApart : ∀ x ∈ t_X4_isApart, decode cX4_isApart x.1 = .ok x.2 := by decide +kernel
def C_X4_isApart : Cfg := (t_X4_isApart, csF, fl_X4, [(24, 0, 0, 1, 0, fn_J13_bitCount_95d88), (30, 1, 5, 1, 0, fn_X7_lowest), (33, 2, 1, 3, 0, fn_X1_shifted), (39, 1, 5, 1, 0, fn_X7_withoutLowest)], in_X4, lg_X4, [], [], none, (some .boolean), 0)
set_option maxRecDepth 100000 in
theorem b_X4_isApart_0 : (fun (v1 : Int64) (M : Mem) => run C_X4_isApart 7 (0, [some (.ref 2), some (.long v1), none, none, none, none, none, none, none, none], [], M, 0)) = (fun (v1 : Int64) (M : Mem) => some (.inl (11, [some (.ref 2), some (.long v1), none, some (.long (1 : Int64)), none, some (.long v1), none, some (.int (d_J13_bitCount_95d88 v1)), none, none], [], M, 0))) := by rfl
set_option maxRecDepth 100000 in
theorem b_X4_isApart_1 : (fun (v1 : Int64) (M : Mem) (a1 : (Int64 × Int64 × Int32)) => run C_X4_isApart 2 (11, [some (.ref 2), some (.long v1), none, some (.long a1.1), none, some (.long a1.2.1), none, some (.int a1.2.2), none, none], [], M, 0)) = (fun (v1 : Int64) (M : Mem) (a1 : (Int64 × Int64 × Int32)) => some (.inl ((br (decide (a1.2.2 ≤ 0)) 13 3 (44)), [some (.ref 2), some (.long v1), none, some (.long a1.1), none, some (.long a1.2.1), none, some (.int a1.2.2), none, none], [], M, 0))) := by rfl
set_option maxRecDepth 100000 in
theorem b_X4_isApart_2 : (fun (v1 : Int64) (M : Mem) (a1 : (Int64 × Int64 × Int32)) => run C_X4_isApart 12 (16, [some (.ref 2), some (.long v1), none, some (.long a1.1), none, some (.long a1.2.1), none, some (.int a1.2.2), none, none], [], M, 0)) = (fun (v1 : Int64) (M : Mem) (a1 : (Int64 × Int64 × Int32)) => some (.inl ((br (decide ((lg_cmp ((d_X1_shifted a1.1 (d_X7_lowest a1.2.1) M) &&& a1.1) (0 : Int64)) = 0)) 34 3 (5)), [some (.ref 2), some (.long v1), none, some (.long a1.1), none, some (.long a1.2.1), none, some (.int a1.2.2), some (.long (d_X1_shifted a1.1 (d_X7_lowest a1.2.1) M)), none], [], M, 0))) := by rfl
set_option maxRecDepth 100000 in
theorem b_X4_isApart_3 : (fun (v1 : Int64) (M : Mem) (a1 : (Int64 × Int64 × Int32)) => run C_X4_isApart 9 (39, [some (.ref 2), some (.long v1), none, some (.long a1.1), none, some (.long a1.2.1), none, some (.int a1.2.2), some (.long (d_X1_shifted a1.1 (d_X7_lowest a1.2.1) M)), none], [], M, 0)) = (fun (v1 : Int64) (M : Mem) (a1 : (Int64 × Int64 × Int32)) => some (.inl (11, [some (.ref 2), some (.long v1), none, some (.long (a1.1 ||| (d_X1_shifted a1.1 (d_X7_lowest a1.2.1) M))), none, some (.long (d_X7_withoutLowest a1.2.1)), none, some (.int (a1.2.2 + (-1 : Int32))), some (.long (d_X1_shifted a1.1 (d_X7_lowest a1.2.1) M)), none], [], M, 0))) := by rfl
set_option maxRecDepth 100000 in
theorem b_X4_isApart_4 : (fun (v1 : Int64) (M : Mem) (a1 : (Int64 × Int64 × Int32)) => run C_X4_isApart 2 (37, [some (.ref 2), some (.long v1), none, some (.long a1.1), none, some (.long a1.2.1), none, some (.int a1.2.2), some (.long (d_X1_shifted a1.1 (d_X7_lowest a1.2.1) M)), none], [], M, 0)) = (fun (v1 : Int64) (M : Mem) (a1 : (Int64 × Int64 × Int32)) => some (.inr (.inl (some (.int (0 : Int32))), M, 0))) := by rfl
def g_X4_isApart_1 (M : Mem) : Int64 × Int64 × Int32 → Option ((Int64 × Int64 × Int32) ⊕ ((Int64 × Int64 × Int32) ⊕ Int32)) := fun (a1 : Int64 × Int64 × Int32) => (if a1.2.2 ≤ 0 then some (.inr (.inl (a1.1, a1.2.1, a1.2.2))) else (if (lg_cmp ((d_X1_shifted a1.1 (d_X7_lowest a1.2.1) M) &&& a1.1) (0 : Int64)) = 0 then some (.inl ((a1.1 ||| (d_X1_shifted a1.1 (d_X7_lowest a1.2.1) M)), (d_X7_withoutLowest a1.2.1), (a1.2.2 + (-1 : Int32)))) else some (.inr (.inr (0 : Int32)))))
set_option maxHeartbeats 2000000 in
theorem l_X4_isApart_1 (v1 : Int64) (M : Mem) : ∀ a1 : Int64 × Int64 × Int32, RG C_X4_isApart ((fun (a1 : Int64 × Int64 × Int32) => (11, [some (.ref 2), some (.long v1), none, some (.long a1.1), none, some (.long a1.2.1), none, some (.int a1.2.2), none, none], [], M, 0)) a1) (g_X4_isApart_1 M a1) (lpP (fun (a1 : Int64 × Int64 × Int32) => (11, [some (.ref 2), some (.long v1), none, some (.long a1.1), none, some (.long a1.2.1), none, some (.int a1.2.2), none, none], [], M, 0)) (fun (a1 : Int64 × Int64 × Int32) => (57, [some (.ref 2), some (.long v1), none, some (.long a1.1), none, some (.long a1.2.1), none, some (.int a1.2.2), none, none], [], M, 0)) (fun (v : Int32) => (.inl (some (.int v)), M))) := by
  intro a1
  unfold g_X4_isApart_1
  show RG C_X4_isApart (11, [some (.ref 2), some (.long v1), none, some (.long a1.1), none, some (.long a1.2.1), none, some (.int a1.2.2), none, none], [], M, 0) _ _
  refine RG.st 2 (congrFun (congrFun (congrFun b_X4_isApart_1 v1) M) a1) ?_
  refine RG.ite (fun h1 => RG.brT (q := 57) h1 rfl ?_) (fun h1 => RG.brF (q := 16) h1 rfl ?_)
  · exact RG.to rfl (Rto.refl _)
  · refine RG.st 12 (congrFun (congrFun (congrFun b_X4_isApart_2 v1) M) a1) ?_
    refine RG.ite (fun h2 => RG.brT (q := 39) h2 rfl ?_) (fun h2 => RG.brF (q := 37) h2 rfl ?_)
    · refine RG.st 9 (congrFun (congrFun (congrFun b_X4_isApart_3 v1) M) a1) ?_
      exact RG.to rfl (Rto.fgt [8] rfl)
    · exact RG.fin rfl (Rend.run 2 (congrFun (congrFun (congrFun b_X4_isApart_4 v1) M) a1))
set_option maxRecDepth 100000 in
theorem b_X4_isApart_5 : (fun (v1 : Int64) (M : Mem) (a2 : (Int64 × Int64 × Int32)) => run C_X4_isApart 2 (57, [some (.ref 2), some (.long v1), none, some (.long a2.1), none, some (.long a2.2.1), none, some (.int a2.2.2), none, none], [], M, 0)) = (fun (v1 : Int64) (M : Mem) (a2 : (Int64 × Int64 × Int32)) => some (.inr (.inl (some (.int (1 : Int32))), M, 0))) := by rfl
def d_X4_isApart (v1 : Int64) (M : Mem) : Option Int32 := (onIt (iter (g_X4_isApart_1 M) 20000 ((1 : Int64), v1, (d_J13_bitCount_95d88 v1))) (fun (a2 : Int64 × Int64 × Int32) => some (1 : Int32)) (fun r => some r))
set_option maxHeartbeats 2000000 in
theorem r_X4_isApart (v1 : Int64) (M : Mem) : RG C_X4_isApart (0, [some (.ref 2), some (.long v1), none, none, none, none, none, none, none, none], [], M, 0) (d_X4_isApart v1 M) (fun v => .inr (.inl (some (.int v)), M)) := by
  unfold d_X4_isApart
  refine RG.st 7 (congrFun (congrFun b_X4_isApart_0 v1) M) ?_
  refine RG.loop (hd := (fun (a1 : Int64 × Int64 × Int32) => (11, [some (.ref 2), some (.long v1), none, some (.long a1.1), none, some (.long a1.2.1), none, some (.int a1.2.2), none, none], [], M, 0))) (ex := (fun (a1 : Int64 × Int64 × Int32) => (57, [some (.ref 2), some (.long v1), none, some (.long a1.1), none, some (.long a1.2.1), none, some (.int a1.2.2), none, none], [], M, 0))) (rt := (fun (v : Int32) => (.inl (some (.int v)), M))) (l_X4_isApart_1 v1 M) (fun a2 => ?_) (fun r v h => by cases h; rfl)
  show RG C_X4_isApart (57, [some (.ref 2), some (.long v1), none, some (.long a2.1), none, some (.long a2.2.1), none, some (.int a2.2.2), none, none], [], M, 0) _ _
  exact RG.fin rfl (Rend.run 2 (congrFun (congrFun (congrFun b_X4_isApart_5 v1) M) a2))
def fn_X4_isApart : Fn := fun av M => match av with
  | [.ref r0, .long v1] => bif Nat.beq r0 2 then (d_X4_isApart v1 M).bind fun v => some (.inl (some (.int v)), M) else (none)
  | _ => none
theorem cfg_X4_isApart : CfgOK RX4 cX4_isApart (C_X4_isApart) 4 := ⟨tk_X4_isApart, csF_nd, flk_X4, (List.forall_mem_cons.mpr ⟨Or.inr ⟨yJ13_bitCount_95d88, cJ13_bitCount_95d88, 2, (some .int), none, 1, ok_J13_bitCount_95d88, by decide, by decide, w_code_java_lang_Long_bitCount__J_I, w_initialized_java_lang_Long, ⟨by decide, by decide⟩, Or.inl ⟨rfl, show (parseMethodDescriptor yJ13_bitCount_95d88.desc).map (fun d => d.parameters.length) = some 1 from by decide +kernel, w_methodLink_Sumsetry_Rules_24, w_static_java_lang_Long_bitCount__J_I⟩⟩,
    List.forall_mem_cons.mpr ⟨Or.inr ⟨yX7_lowest, cX7_lowest, 2, (some .int), none, 3, ok_X7_lowest, by decide, by decide, w_code_Sumsetry_lowest__J_I, w_initialized_Sumsetry, ⟨by decide, by decide⟩, Or.inr (Or.inl ⟨rfl, rfl, show (parseMethodDescriptor yX7_lowest.desc).map (fun d => d.parameters.length) = some 1 from by decide +kernel, ⟨"Sumsetry", by decide +kernel⟩, w_static_Sumsetry_lowest__J_I⟩)⟩,
    List.forall_mem_cons.mpr ⟨Or.inr ⟨yX1_shifted, cX1_shifted, 10, (some .long), none, 2, ok_X1_shifted, by decide, by decide, w_code_Sumsetry_Group_shifted__JI_J, w_initialized_Sumsetry_Group, ⟨by decide, by decide⟩, Or.inr (Or.inr ⟨rfl, rfl, show (parseMethodDescriptor yX1_shifted.desc).map (fun d => d.parameters.length + 1) = some 3 from by decide +kernel, w_methodLink_Sumsetry_Rules_33, w_instanceMethod_Sumsetry_Group_shifted__JI_J, w_selects_Sumsetry_Group_shifted__JI_J, ⟨_, rfl, rfl⟩⟩)⟩,
    List.forall_mem_cons.mpr ⟨Or.inr ⟨yX7_withoutLowest, cX7_withoutLowest, 2, (some .long), none, 1, ok_X7_withoutLowest, by decide, by decide, w_code_Sumsetry_withoutLowest__J_J, w_initialized_Sumsetry, ⟨by decide, by decide⟩, Or.inr (Or.inl ⟨rfl, rfl, show (parseMethodDescriptor yX7_withoutLowest.desc).map (fun d => d.parameters.length) = some 1 from by decide +kernel, ⟨"Sumsetry", by decide +kernel⟩, w_static_Sumsetry_withoutLowest__J_J⟩)⟩, fun _ h => absurd h List.not_mem_nil⟩⟩⟩⟩), ink_X4, lgk_X4, fun e h => absurd h List.not_mem_nil, (fun h hh => absurd hh List.not_mem_nil)⟩
theorem ok_X4_isApart : OkM csF yX4_isApart (Cond.code yX4_isApart cX4_isApart 10 (some .boolean)) 4 0 fn_X4_isApart :=
  OkM_of (own := RX4) (C := C_X4_isApart) (by decide +kernel) rfl (cfg_X4_isApart) rfl rfl rfl rfl (by
    intro av M o M' h
    unfold fn_X4_isApart at h
    split at h
    · rename_i r0 v1
      rcases bif_cs h with ⟨hb, h⟩ | ⟨-, h⟩
      · skip
        have hr0 := hb
        obtain rfl := Nat.eq_of_beq_eq_true hr0
        obtain ⟨w, hw, h⟩ := bind_cs h
        cases h
        exact ⟨rfl, Nat.le_of_ble_eq_true rfl, (r_X4_isApart v1 M) w hw⟩
      · cases h
    · cases h)
def t_X4_hold : List (Nat × Instr × Nat) := [(0, .iload_n 3, 1), (1, .tableswitch 55 0 3 #[31, 37, 43, 49], 31), (32, .aload_n 0, 1), (33, .lload_n 1, 1), (34, .invokestatic 9, 3), (37, .ireturn, 1), (38, .aload_n 0, 1), (39, .lload_n 1, 1), (40, .invokestatic 15, 3), (43, .ireturn, 1), (44, .aload_n 0, 1), (45, .lload_n 1, 1), (46, .invokestatic 18, 3), (49, .ireturn, 1), (50, .aload_n 0, 1), (51, .lload_n 1, 1), (52, .invokestatic 21, 3), (55, .ireturn, 1), (56, .iconst 0, 1), (57, .ireturn, 1)]
theorem tk_X4_hold : ∀ x ∈ t_X4_hold, decode cX4_hold x.1 = .ok x.2 := by decide +kernel
def C_X4_hold : Cfg := (t_X4_hold, csF, fl_X4, [(9, 0, 0, 2, 0, fn_X4_isFree), (15, 0, 0, 2, 0, fn_X4_isSidon), (18, 0, 0, 2, 0, fn_X4_hasNoSteps), (21, 0, 0, 2, 0, fn_X4_isApart)], in_X4, lg_X4, [], [], none, (some .boolean), 0)
set_option maxRecDepth 100000 in
theorem b_X4_hold_0 : (fun (v1 : Int64) (v3 : Int32) (M : Mem) => run C_X4_hold 1 (0, [some (.ref 2), some (.long v1), none, some (.int v3)], [], M, 0)) = (fun (v1 : Int64) (v3 : Int32) (M : Mem) => some (.inl (1, [some (.ref 2), some (.long v1), none, some (.int v3)], [.int v3], M, 0))) := by rfl
set_option maxRecDepth 100000 in
theorem b_X4_hold_1 : (fun (v1 : Int64) (v3 : Int32) (M : Mem) => run C_X4_hold 1 (1, [some (.ref 2), some (.long v1), none, some (.int v3)], [.int (0 : Int32)], M, 0)) = (fun (v1 : Int64) (v3 : Int32) (M : Mem) => some (.inl (32, [some (.ref 2), some (.long v1), none, some (.int v3)], [], M, 0))) := by rfl
set_option maxRecDepth 100000 in
theorem b_X4_hold_2 : (fun (v1 : Int64) (v3 : Int32) (M : Mem) => run C_X4_hold 2 (32, [some (.ref 2), some (.long v1), none, some (.int v3)], [], M, 0)) = (fun (v1 : Int64) (v3 : Int32) (M : Mem) => some (.inl (34, [some (.ref 2), some (.long v1), none, some (.int v3)], [.long v1, .ref 2], M, 0))) := by rfl
set_option maxRecDepth 100000 in
theorem b_X4_hold_3 : (fun (v1 : Int64) (v3 : Int32) (M : Mem) (w1 : Int32) => run C_X4_hold 1 (37, [some (.ref 2), some (.long v1), none, some (.int v3)], [.int w1], M, 0)) = (fun (v1 : Int64) (v3 : Int32) (M : Mem) (w1 : Int32) => some (.inr (.inl (some (.int (w1 &&& 1))), M, 0))) := by rfl
set_option maxRecDepth 100000 in
theorem b_X4_hold_4 : (fun (v1 : Int64) (v3 : Int32) (M : Mem) => run C_X4_hold 1 (1, [some (.ref 2), some (.long v1), none, some (.int v3)], [.int (1 : Int32)], M, 0)) = (fun (v1 : Int64) (v3 : Int32) (M : Mem) => some (.inl (38, [some (.ref 2), some (.long v1), none, some (.int v3)], [], M, 0))) := by rfl
set_option maxRecDepth 100000 in
theorem b_X4_hold_5 : (fun (v1 : Int64) (v3 : Int32) (M : Mem) => run C_X4_hold 2 (38, [some (.ref 2), some (.long v1), none, some (.int v3)], [], M, 0)) = (fun (v1 : Int64) (v3 : Int32) (M : Mem) => some (.inl (40, [some (.ref 2), some (.long v1), none, some (.int v3)], [.long v1, .ref 2], M, 0))) := by rfl
set_option maxRecDepth 100000 in
theorem b_X4_hold_6 : (fun (v1 : Int64) (v3 : Int32) (M : Mem) (w2 : Int32) => run C_X4_hold 1 (43, [some (.ref 2), some (.long v1), none, some (.int v3)], [.int w2], M, 0)) = (fun (v1 : Int64) (v3 : Int32) (M : Mem) (w2 : Int32) => some (.inr (.inl (some (.int (w2 &&& 1))), M, 0))) := by rfl
set_option maxRecDepth 100000 in
theorem b_X4_hold_7 : (fun (v1 : Int64) (v3 : Int32) (M : Mem) => run C_X4_hold 1 (1, [some (.ref 2), some (.long v1), none, some (.int v3)], [.int (2 : Int32)], M, 0)) = (fun (v1 : Int64) (v3 : Int32) (M : Mem) => some (.inl (44, [some (.ref 2), some (.long v1), none, some (.int v3)], [], M, 0))) := by rfl
set_option maxRecDepth 100000 in
theorem b_X4_hold_8 : (fun (v1 : Int64) (v3 : Int32) (M : Mem) => run C_X4_hold 2 (44, [some (.ref 2), some (.long v1), none, some (.int v3)], [], M, 0)) = (fun (v1 : Int64) (v3 : Int32) (M : Mem) => some (.inl (46, [some (.ref 2), some (.long v1), none, some (.int v3)], [.long v1, .ref 2], M, 0))) := by rfl
set_option maxRecDepth 100000 in
theorem b_X4_hold_9 : (fun (v1 : Int64) (v3 : Int32) (M : Mem) (w3 : Int32) => run C_X4_hold 1 (49, [some (.ref 2), some (.long v1), none, some (.int v3)], [.int w3], M, 0)) = (fun (v1 : Int64) (v3 : Int32) (M : Mem) (w3 : Int32) => some (.inr (.inl (some (.int (w3 &&& 1))), M, 0))) := by rfl
set_option maxRecDepth 100000 in
theorem b_X4_hold_10 : (fun (v1 : Int64) (v3 : Int32) (M : Mem) => run C_X4_hold 1 (1, [some (.ref 2), some (.long v1), none, some (.int v3)], [.int (3 : Int32)], M, 0)) = (fun (v1 : Int64) (v3 : Int32) (M : Mem) => some (.inl (50, [some (.ref 2), some (.long v1), none, some (.int v3)], [], M, 0))) := by rfl
set_option maxRecDepth 100000 in
theorem b_X4_hold_11 : (fun (v1 : Int64) (v3 : Int32) (M : Mem) => run C_X4_hold 2 (50, [some (.ref 2), some (.long v1), none, some (.int v3)], [], M, 0)) = (fun (v1 : Int64) (v3 : Int32) (M : Mem) => some (.inl (52, [some (.ref 2), some (.long v1), none, some (.int v3)], [.long v1, .ref 2], M, 0))) := by rfl
set_option maxRecDepth 100000 in
theorem b_X4_hold_12 : (fun (v1 : Int64) (v3 : Int32) (M : Mem) (w4 : Int32) => run C_X4_hold 1 (55, [some (.ref 2), some (.long v1), none, some (.int v3)], [.int w4], M, 0)) = (fun (v1 : Int64) (v3 : Int32) (M : Mem) (w4 : Int32) => some (.inr (.inl (some (.int (w4 &&& 1))), M, 0))) := by rfl
set_option maxRecDepth 100000 in
theorem b_X4_hold_13 : (fun (v1 : Int64) (v3 : Int32) (M : Mem) => run C_X4_hold 2 (56, [some (.ref 2), some (.long v1), none, some (.int v3)], [], M, 0)) = (fun (v1 : Int64) (v3 : Int32) (M : Mem) => some (.inr (.inl (some (.int (0 : Int32))), M, 0))) := by rfl
def d_X4_hold (v1 : Int64) (v3 : Int32) (M : Mem) : Option Int32 := (if v3 = 0 then ((d_X4_isFree v1 M).bind fun w1 => some (w1 &&& 1)) else (if v3 = 1 then ((d_X4_isSidon v1 M).bind fun w2 => some (w2 &&& 1)) else (if v3 = 2 then ((d_X4_hasNoSteps v1 M).bind fun w3 => some (w3 &&& 1)) else (if v3 = 3 then ((d_X4_isApart v1 M).bind fun w4 => some (w4 &&& 1)) else (some (0 : Int32))))))
set_option maxHeartbeats 2000000 in
theorem r_X4_hold (v1 : Int64) (v3 : Int32) (M : Mem) : RG C_X4_hold (0, [some (.ref 2), some (.long v1), none, some (.int v3)], [], M, 0) (d_X4_hold v1 v3 M) (fun v => .inr (.inl (some (.int v)), M)) := by
  unfold d_X4_hold
  refine RG.st 1 (congrFun (congrFun (congrFun b_X4_hold_0 v1) v3) M) ?_
  refine RG.ite (fun h1 => RG.eqI h1 (RG.st 1 (congrFun (congrFun (congrFun b_X4_hold_1 v1) v3) M) ?_)) (fun h1 => ?_)
  · refine RG.st 2 (congrFun (congrFun (congrFun b_X4_hold_2 v1) v3) M) ?_
    refine RG.bind (fun w1 h2 => RG.st 1 (run_callS (v := some (.int w1)) rfl rfl rfl rfl (bindI h2)) ?_)
    show RG C_X4_hold (37, [some (.ref 2), some (.long v1), none, some (.int v3)], [.int w1], M, 0) _ _
    exact RG.fin rfl (Rend.run 1 (congrFun (congrFun (congrFun (congrFun b_X4_hold_3 v1) v3) M) w1))
  refine RG.ite (fun h3 => RG.eqI h3 (RG.st 1 (congrFun (congrFun (congrFun b_X4_hold_4 v1) v3) M) ?_)) (fun h3 => ?_)
  · refine RG.st 2 (congrFun (congrFun (congrFun b_X4_hold_5 v1) v3) M) ?_
    refine RG.bind (fun w2 h4 => RG.st 1 (run_callS (v := some (.int w2)) rfl rfl rfl rfl (bindI h4)) ?_)
    show RG C_X4_hold (43, [some (.ref 2), some (.long v1), none, some (.int v3)], [.int w2], M, 0) _ _
    exact RG.fin rfl (Rend.run 1 (congrFun (congrFun (congrFun (congrFun b_X4_hold_6 v1) v3) M) w2))
  refine RG.ite (fun h5 => RG.eqI h5 (RG.st 1 (congrFun (congrFun (congrFun b_X4_hold_7 v1) v3) M) ?_)) (fun h5 => ?_)
  · refine RG.st 2 (congrFun (congrFun (congrFun b_X4_hold_8 v1) v3) M) ?_
    refine RG.bind (fun w3 h6 => RG.st 1 (run_callS (v := some (.int w3)) rfl rfl rfl rfl (bindI h6)) ?_)
    show RG C_X4_hold (49, [some (.ref 2), some (.long v1), none, some (.int v3)], [.int w3], M, 0) _ _
    exact RG.fin rfl (Rend.run 1 (congrFun (congrFun (congrFun (congrFun b_X4_hold_9 v1) v3) M) w3))
  refine RG.ite (fun h7 => RG.eqI h7 (RG.st 1 (congrFun (congrFun (congrFun b_X4_hold_10 v1) v3) M) ?_)) (fun h7 => ?_)
  · refine RG.st 2 (congrFun (congrFun (congrFun b_X4_hold_11 v1) v3) M) ?_
    refine RG.bind (fun w4 h8 => RG.st 1 (run_callS (v := some (.int w4)) rfl rfl rfl rfl (bindI h8)) ?_)
    show RG C_X4_hold (55, [some (.ref 2), some (.long v1), none, some (.int v3)], [.int w4], M, 0) _ _
    exact RG.fin rfl (Rend.run 1 (congrFun (congrFun (congrFun (congrFun b_X4_hold_12 v1) v3) M) w4))
  refine RG.st 1 (run_tsw (q := 56) rfl rfl (tsw_out (by have e0 : v3.toInt ≠ 0 := fun e => h1 (Int32.toInt_inj.mp (e.trans (by decide))); have e1 : v3.toInt ≠ 1 := fun e => h3 (Int32.toInt_inj.mp (e.trans (by decide))); have e2 : v3.toInt ≠ 2 := fun e => h5 (Int32.toInt_inj.mp (e.trans (by decide))); have e3 : v3.toInt ≠ 3 := fun e => h7 (Int32.toInt_inj.mp (e.trans (by decide))); omega) rfl rfl)) ?_
  exact RG.fin rfl (Rend.run 2 (congrFun (congrFun (congrFun b_X4_hold_13 v1) v3) M))
def fn_X4_hold : Fn := fun av M => match av with
  | [.ref r0, .long v1, .int v3] => bif Nat.beq r0 2 then (d_X4_hold v1 v3 M).bind fun v => some (.inl (some (.int v)), M) else (none)
  | _ => none
theorem cfg_X4_hold : CfgOK RX4 cX4_hold (C_X4_hold) 6 := ⟨tk_X4_hold, csF_nd, flk_X4, (List.forall_mem_cons.mpr ⟨Or.inr ⟨yX4_isFree, cX4_isFree, 6, (some .boolean), none, 4, ok_X4_isFree, by decide, by decide, w_code_Sumsetry_Rules_isFree__LSumsetry_Group_J_Z, w_initialized_Sumsetry_Rules, ⟨by decide, by decide⟩, Or.inl ⟨rfl, show (parseMethodDescriptor yX4_isFree.desc).map (fun d => d.parameters.length) = some 2 from by decide +kernel, w_methodLink_Sumsetry_Rules_9, w_static_Sumsetry_Rules_isFree__LSumsetry_Group_J_Z⟩⟩,
    List.forall_mem_cons.mpr ⟨Or.inr ⟨yX4_isSidon, cX4_isSidon, 10, (some .boolean), none, 4, ok_X4_isSidon, by decide, by decide, w_code_Sumsetry_Rules_isSidon__LSumsetry_Group_J_Z, w_initialized_Sumsetry_Rules, ⟨by decide, by decide⟩, Or.inl ⟨rfl, show (parseMethodDescriptor yX4_isSidon.desc).map (fun d => d.parameters.length) = some 2 from by decide +kernel, w_methodLink_Sumsetry_Rules_15, w_static_Sumsetry_Rules_isSidon__LSumsetry_Group_J_Z⟩⟩,
    List.forall_mem_cons.mpr ⟨Or.inr ⟨yX4_hasNoSteps, cX4_hasNoSteps, 13, (some .boolean), none, 5, ok_X4_hasNoSteps, by decide, by decide, w_code_Sumsetry_Rules_hasNoSteps__LSumsetry_Group_J_Z, w_initialized_Sumsetry_Rules, ⟨by decide, by decide⟩, Or.inl ⟨rfl, show (parseMethodDescriptor yX4_hasNoSteps.desc).map (fun d => d.parameters.length) = some 2 from by decide +kernel, w_methodLink_Sumsetry_Rules_18, w_static_Sumsetry_Rules_hasNoSteps__LSumsetry_Group_J_Z⟩⟩,
    List.forall_mem_cons.mpr ⟨Or.inr ⟨yX4_isApart, cX4_isApart, 10, (some .boolean), none, 4, ok_X4_isApart, by decide, by decide, w_code_Sumsetry_Rules_isApart__LSumsetry_Group_J_Z, w_initialized_Sumsetry_Rules, ⟨by decide, by decide⟩, Or.inl ⟨rfl, show (parseMethodDescriptor yX4_isApart.desc).map (fun d => d.parameters.length) = some 2 from by decide +kernel, w_methodLink_Sumsetry_Rules_21, w_static_Sumsetry_Rules_isApart__LSumsetry_Group_J_Z⟩⟩, fun _ h => absurd h List.not_mem_nil⟩⟩⟩⟩), ink_X4, lgk_X4, fun e h => absurd h List.not_mem_nil, (fun h hh => absurd hh List.not_mem_nil)⟩
theorem ok_X4_hold : OkM csF yX4_hold (Cond.code yX4_hold cX4_hold 4 (some .boolean)) 6 0 fn_X4_hold :=
  OkM_of (own := RX4) (C := C_X4_hold) (by decide +kernel) rfl (cfg_X4_hold) rfl rfl rfl rfl (by
    intro av M o M' h
    unfold fn_X4_hold at h
    split at h
    · rename_i r0 v1 v3
      rcases bif_cs h with ⟨hb, h⟩ | ⟨-, h⟩
      · skip
        have hr0 := hb
        obtain rfl := Nat.eq_of_beq_eq_true hr0
        obtain ⟨w, hw, h⟩ := bind_cs h
        cases h
        exact ⟨rfl, Nat.le_of_ble_eq_true rfl, (r_X4_hold v1 v3 M) w hw⟩
      · cases h
    · cases h)
def t_X7_has : List (Nat × Instr × Nat) := [(0, .lload_n 0, 1), (1, .iload_n 2, 1), (2, .lushr, 1), (3, .lconst 1, 1), (4, .land, 1), (5, .lconst 0, 1), (6, .lcmp, 1), (7, .ifCond .eq 7, 3), (10, .iconst 1, 1), (11, .goto 4, 3), (14, .iconst 0, 1), (15, .ireturn, 1)]
theorem tk_X7_has : ∀ x ∈ t_X7_has, decode cX7_has x.1 = .ok x.2 := by decide +kernel
def C_X7_has : Cfg := (t_X7_has, csF, fl_X7, [], in_X7, lg_X7, [], [], none, (some .boolean), 0)
set_option maxRecDepth 100000 in
theorem b_X7_has_0 : (fun (v0 : Int64) (v2 : Int32) (M : Mem) => run C_X7_has 8 (0, [some (.long v0), none, some (.int v2)], [], M, 0)) = (fun (v0 : Int64) (v2 : Int32) (M : Mem) => some (.inl ((br (decide ((lg_cmp ((jushr v0 v2) &&& (1 : Int64)) (0 : Int64)) = 0)) 7 3 (7)), [some (.long v0), none, some (.int v2)], [], M, 0))) := by rfl
set_option maxRecDepth 100000 in
theorem b_X7_has_1 : (fun (v0 : Int64) (v2 : Int32) (M : Mem) => run C_X7_has 2 (14, [some (.long v0), none, some (.int v2)], [], M, 0)) = (fun (v0 : Int64) (v2 : Int32) (M : Mem) => some (.inr (.inl (some (.int (0 : Int32))), M, 0))) := by rfl
set_option maxRecDepth 100000 in
theorem b_X7_has_2 : (fun (v0 : Int64) (v2 : Int32) (M : Mem) => run C_X7_has 3 (10, [some (.long v0), none, some (.int v2)], [], M, 0)) = (fun (v0 : Int64) (v2 : Int32) (M : Mem) => some (.inr (.inl (some (.int (1 : Int32))), M, 0))) := by rfl
def d_X7_has (v0 : Int64) (v2 : Int32) : Int32 := (if (lg_cmp ((jushr v0 v2) &&& (1 : Int64)) (0 : Int64)) = 0 then (0 : Int32) else (1 : Int32))
set_option maxHeartbeats 2000000 in
theorem r_X7_has (v0 : Int64) (v2 : Int32) (M : Mem) : RG C_X7_has (0, [some (.long v0), none, some (.int v2)], [], M, 0) (some (d_X7_has v0 v2)) (fun v => .inr (.inl (some (.int v)), M)) := by
  unfold d_X7_has
  refine RG.st 8 (congrFun (congrFun (congrFun b_X7_has_0 v0) v2) M) ?_
  refine RG.ites (fun h1 => RG.brT (q := 14) h1 rfl ?_) (fun h1 => RG.brF (q := 10) h1 rfl ?_)
  · exact RG.fin rfl (Rend.run 2 (congrFun (congrFun (congrFun b_X7_has_1 v0) v2) M))
  · exact RG.fin rfl (Rend.run 3 (congrFun (congrFun (congrFun b_X7_has_2 v0) v2) M))
def fn_X7_has : Fn := fun av M => match av with
  | [.long v0, .int v2] => some (.inl (some (.int (d_X7_has v0 v2))), M)
  | _ => none
theorem cfg_X7_has : CfgOK RX7 cX7_has (C_X7_has) 1 := ⟨tk_X7_has, csF_nd, flk_X7, (fun e h => absurd h List.not_mem_nil), ink_X7, lgk_X7, fun e h => absurd h List.not_mem_nil, (fun h hh => absurd hh List.not_mem_nil)⟩
theorem ok_X7_has : OkM csF yX7_has (Cond.code yX7_has cX7_has 3 (some .boolean)) 1 0 fn_X7_has :=
  OkM_of (own := RX7) (C := C_X7_has) (by decide +kernel) rfl (cfg_X7_has) rfl rfl rfl rfl (by
    intro av M o M' h
    unfold fn_X7_has at h
    split at h
    · rename_i v0 v2
      cases h
      exact ⟨rfl, Nat.le_of_ble_eq_true rfl, (r_X7_has v0 v2 M) _ rfl⟩
    · cases h)
def fl_X0 : List (Nat × Nat × Nat) := [(9, 12, 0), (15, 2, 3), (29, 2, 2)]
theorem flk_X0 : ∀ e ∈ fl_X0, fldb RX0 e = true := by decide +kernel
def in_X0 : List (Nat × Int32) := []
theorem ink_X0 : ∀ e ∈ in_X0, Cond.constant RX0 e.1 e.2 ∈ TB := by decide +kernel
def lg_X0 : List (Nat × Int64) := []
theorem lgk_X0 : ∀ e ∈ lg_X0, Cond.constantLong RX0 e.1 e.2 ∈ TB := by decide +kernel
def t_X0_leadsToLost : List (Nat × Instr × Nat) := [(0, .iload_n 1, 1), (1, .i2l, 1), (2, .iload_n 2, 1), (3, .invokestatic 47, 3), (6, .ifCond .ne 23, 3), (9, .aload_n 0, 1), (10, .getfield 9, 3), (13, .iload_n 1, 1), (14, .iconst 1, 1), (15, .iload_n 2, 1), (16, .ishl, 1), (17, .ior, 1), (18, .invokestatic 51, 3), (21, .iconst 1, 1), (22, .if_icmp .ne 7, 3), (25, .iconst 1, 1), (26, .goto 4, 3), (29, .iconst 0, 1), (30, .ireturn, 1)]
theorem tk_X0_leadsToLost : ∀ x ∈ t_X0_leadsToLost, decode cX0_leadsToLost x.1 = .ok x.2 := by decide +kernel
def C_X0_leadsToLost : Cfg := (t_X0_leadsToLost, csF, fl_X0, [(47, 1, 5, 2, 0, fn_X7_has), (51, 1, 5, 2, 0, fn_X7_at)], in_X0, lg_X0, [], [], none, (some .boolean), 0)
set_option maxRecDepth 100000 in
theorem b_X0_leadsToLost_0 : (fun (v1 : Int32) (v2 : Int32) (M : Mem) => run C_X0_leadsToLost 5 (0, [some (.ref 12), some (.int v1), some (.int v2)], [], M, 0)) = (fun (v1 : Int32) (v2 : Int32) (M : Mem) => some (.inl ((br (!decide ((d_X7_has v1.toInt64 v2) = 0)) 6 3 (23)), [some (.ref 12), some (.int v1), some (.int v2)], [], M, 0))) := by rfl
set_option maxRecDepth 100000 in
theorem b_X0_leadsToLost_1 : (fun (v1 : Int32) (v2 : Int32) (M : Mem) => run C_X0_leadsToLost 10 (9, [some (.ref 12), some (.int v1), some (.int v2)], [], M, 0)) = (fun (v1 : Int32) (v2 : Int32) (M : Mem) => some (.inl ((br (!decide ((d_X7_at 13 1024 (v1 ||| (jsl (1 : Int32) v2)) M) = (1 : Int32))) 22 3 (7)), [some (.ref 12), some (.int v1), some (.int v2)], [], M, 0))) := by rfl
set_option maxRecDepth 100000 in
theorem b_X0_leadsToLost_2 : (fun (v1 : Int32) (v2 : Int32) (M : Mem) => run C_X0_leadsToLost 3 (25, [some (.ref 12), some (.int v1), some (.int v2)], [], M, 0)) = (fun (v1 : Int32) (v2 : Int32) (M : Mem) => some (.inr (.inl (some (.int (1 : Int32))), M, 0))) := by rfl
set_option maxRecDepth 100000 in
theorem b_X0_leadsToLost_3 : (fun (v1 : Int32) (v2 : Int32) (M : Mem) => run C_X0_leadsToLost 2 (29, [some (.ref 12), some (.int v1), some (.int v2)], [], M, 0)) = (fun (v1 : Int32) (v2 : Int32) (M : Mem) => some (.inr (.inl (some (.int (0 : Int32))), M, 0))) := by rfl
set_option maxRecDepth 100000 in
theorem b_X0_leadsToLost_4 : (fun (v1 : Int32) (v2 : Int32) (M : Mem) => run C_X0_leadsToLost 2 (29, [some (.ref 12), some (.int v1), some (.int v2)], [], M, 0)) = (fun (v1 : Int32) (v2 : Int32) (M : Mem) => some (.inr (.inl (some (.int (0 : Int32))), M, 0))) := by rfl
def d_X0_leadsToLost (v1 : Int32) (v2 : Int32) (M : Mem) : Int32 := (if (d_X7_has v1.toInt64 v2) = 0 then (if (d_X7_at 13 1024 (v1 ||| (jsl (1 : Int32) v2)) M) = (1 : Int32) then (1 : Int32) else (0 : Int32)) else (0 : Int32))
set_option maxHeartbeats 2000000 in
theorem r_X0_leadsToLost (v1 : Int32) (v2 : Int32) (M : Mem) : RG C_X0_leadsToLost (0, [some (.ref 12), some (.int v1), some (.int v2)], [], M, 0) (some (d_X0_leadsToLost v1 v2 M)) (fun v => .inr (.inl (some (.int v)), M)) := by
  unfold d_X0_leadsToLost
  refine RG.st 5 (congrFun (congrFun (congrFun b_X0_leadsToLost_0 v1) v2) M) ?_
  refine RG.ites (fun h1 => RG.brNF (q := 9) h1 rfl ?_) (fun h1 => RG.brNT (q := 29) h1 rfl ?_)
  · refine RG.st 10 (congrFun (congrFun (congrFun b_X0_leadsToLost_1 v1) v2) M) ?_
    refine RG.ites (fun h2 => RG.brNF (q := 25) h2 rfl ?_) (fun h2 => RG.brNT (q := 29) h2 rfl ?_)
    · exact RG.fin rfl (Rend.run 3 (congrFun (congrFun (congrFun b_X0_leadsToLost_2 v1) v2) M))
    · exact RG.fin rfl (Rend.run 2 (congrFun (congrFun (congrFun b_X0_leadsToLost_3 v1) v2) M))
  · exact RG.fin rfl (Rend.run 2 (congrFun (congrFun (congrFun b_X0_leadsToLost_4 v1) v2) M))
def fn_X0_leadsToLost : Fn := fun av M => match av with
  | [.ref r0, .int v1, .int v2] => bif Nat.beq r0 12 then some (.inl (some (.int (d_X0_leadsToLost v1 v2 M))), M) else (none)
  | _ => none
theorem cfg_X0_leadsToLost : CfgOK RX0 cX0_leadsToLost (C_X0_leadsToLost) 2 := ⟨tk_X0_leadsToLost, csF_nd, flk_X0, (List.forall_mem_cons.mpr ⟨Or.inr ⟨yX7_has, cX7_has, 3, (some .boolean), none, 1, ok_X7_has, by decide, by decide, w_code_Sumsetry_has__JI_Z, w_initialized_Sumsetry, ⟨by decide, by decide⟩, Or.inr (Or.inl ⟨rfl, rfl, show (parseMethodDescriptor yX7_has.desc).map (fun d => d.parameters.length) = some 2 from by decide +kernel, ⟨"Sumsetry", by decide +kernel⟩, w_static_Sumsetry_has__JI_Z⟩)⟩,
    List.forall_mem_cons.mpr ⟨Or.inr ⟨yX7_at, cX7_at, 2, (some .int), none, 1, ok_X7_at, by decide, by decide, w_code_Sumsetry_at___II_I, w_initialized_Sumsetry, ⟨by decide, by decide⟩, Or.inr (Or.inl ⟨rfl, rfl, show (parseMethodDescriptor yX7_at.desc).map (fun d => d.parameters.length) = some 2 from by decide +kernel, ⟨"Sumsetry", by decide +kernel⟩, w_static_Sumsetry_at___II_I⟩)⟩, fun _ h => absurd h List.not_mem_nil⟩⟩), ink_X0, lgk_X0, fun e h => absurd h List.not_mem_nil, (fun h hh => absurd hh List.not_mem_nil)⟩
theorem ok_X0_leadsToLost : OkM csF yX0_leadsToLost (Cond.code yX0_leadsToLost cX0_leadsToLost 3 (some .boolean)) 2 0 fn_X0_leadsToLost :=
  OkM_of (own := RX0) (C := C_X0_leadsToLost) (by decide +kernel) rfl (cfg_X0_leadsToLost) rfl rfl rfl rfl (by
    intro av M o M' h
    unfold fn_X0_leadsToLost at h
    split at h
    · rename_i r0 v1 v2
      rcases bif_cs h with ⟨hb, h⟩ | ⟨-, h⟩
      · skip
        have hr0 := hb
        obtain rfl := Nat.eq_of_beq_eq_true hr0
        cases h
        exact ⟨rfl, Nat.le_of_ble_eq_true rfl, (r_X0_leadsToLost v1 v2 M) _ rfl⟩
      · cases h
    · cases h)
def t_X0_isLost : List (Nat × Instr × Nat) := [(0, .aload_n 1, 1), (1, .iload_n 2, 1), (2, .i2l, 1), (3, .iload_n 3, 1), (4, .invokestatic 41, 3), (7, .ifCond .ne 5, 3), (10, .iconst 0, 1), (11, .ireturn, 1), (12, .iconst 0, 1), (13, .istore 4, 2), (15, .iload 4, 2), (17, .aload_n 1, 1), (18, .getfield 29, 3), (21, .if_icmp .ge 21, 3), (24, .aload_n 0, 1), (25, .iload_n 2, 1), (26, .iload 4, 2), (28, .invokevirtual 33, 3), (31, .ifCond .eq 5, 3), (34, .iconst 0, 1), (35, .ireturn, 1), (36, .iinc 4 1, 3), (39, .goto (-24), 3), (42, .iconst 1, 1), (43, .ireturn, 1)]
theorem tk_X0_isLost : ∀ x ∈ t_X0_isLost, decode cX0_isLost x.1 = .ok x.2 := by decide +kernel
def C_X0_isLost : Cfg := (t_X0_isLost, csF, fl_X0, [(33, 2, 0, 3, 0, fn_X0_leadsToLost), (41, 0, 0, 3, 0, fn_X4_hold)], in_X0, lg_X0, [], [], none, (some .boolean), 0)
set_option maxRecDepth 100000 in
theorem b_X0_isLost_0 : (fun (v2 : Int32) (v3 : Int32) (M : Mem) => run C_X0_isLost 4 (0, [some (.ref 12), some (.ref 2), some (.int v2), some (.int v3), none], [], M, 0)) = (fun (v2 : Int32) (v3 : Int32) (M : Mem) => some (.inl (4, [some (.ref 12), some (.ref 2), some (.int v2), some (.int v3), none], [.int v3, .long v2.toInt64, .ref 2], M, 0))) := by rfl
set_option maxRecDepth 100000 in
theorem b_X0_isLost_1 : (fun (v2 : Int32) (v3 : Int32) (M : Mem) (w1 : Int32) => run C_X0_isLost 1 (7, [some (.ref 12), some (.ref 2), some (.int v2), some (.int v3), none], [.int w1], M, 0)) = (fun (v2 : Int32) (v3 : Int32) (M : Mem) (w1 : Int32) => some (.inl ((br (!decide (w1 = 0)) 7 3 (5)), [some (.ref 12), some (.ref 2), some (.int v2), some (.int v3), none], [], M, 0))) := by rfl
set_option maxRecDepth 100000 in
theorem b_X0_isLost_2 : (fun (v2 : Int32) (v3 : Int32) (M : Mem) => run C_X0_isLost 2 (10, [some (.ref 12), some (.ref 2), some (.int v2), some (.int v3), none], [], M, 0)) = (fun (v2 : Int32) (v3 : Int32) (M : Mem) => some (.inr (.inl (some (.int (0 : Int32))), M, 0))) := by rfl
set_option maxRecDepth 100000 in
theorem b_X0_isLost_3 : (fun (v2 : Int32) (v3 : Int32) (M : Mem) => run C_X0_isLost 2 (12, [some (.ref 12), some (.ref 2), some (.int v2), some (.int v3), none], [], M, 0)) = (fun (v2 : Int32) (v3 : Int32) (M : Mem) => some (.inl (15, [some (.ref 12), some (.ref 2), some (.int v2), some (.int v3), some (.int (0 : Int32))], [], M, 0))) := by rfl
set_option maxRecDepth 100000 in
theorem b_X0_isLost_4 : (fun (v2 : Int32) (v3 : Int32) (M : Mem) (a1 : Int32) => run C_X0_isLost 4 (15, [some (.ref 12), some (.ref 2), some (.int v2), some (.int v3), some (.int a1)], [], M, 0)) = (fun (v2 : Int32) (v3 : Int32) (M : Mem) (a1 : Int32) => some (.inl ((br (!decide (a1 < (M.1 2 2))) 21 3 (21)), [some (.ref 12), some (.ref 2), some (.int v2), some (.int v3), some (.int a1)], [], M, 0))) := by rfl
set_option maxRecDepth 100000 in
theorem b_X0_isLost_5 : (fun (v2 : Int32) (v3 : Int32) (M : Mem) (a1 : Int32) => run C_X0_isLost 5 (24, [some (.ref 12), some (.ref 2), some (.int v2), some (.int v3), some (.int a1)], [], M, 0)) = (fun (v2 : Int32) (v3 : Int32) (M : Mem) (a1 : Int32) => some (.inl ((br (decide ((d_X0_leadsToLost v2 a1 M) = 0)) 31 3 (5)), [some (.ref 12), some (.ref 2), some (.int v2), some (.int v3), some (.int a1)], [], M, 0))) := by rfl
set_option maxRecDepth 100000 in
theorem b_X0_isLost_6 : (fun (v2 : Int32) (v3 : Int32) (M : Mem) (a1 : Int32) => run C_X0_isLost 2 (36, [some (.ref 12), some (.ref 2), some (.int v2), some (.int v3), some (.int a1)], [], M, 0)) = (fun (v2 : Int32) (v3 : Int32) (M : Mem) (a1 : Int32) => some (.inl (15, [some (.ref 12), some (.ref 2), some (.int v2), some (.int v3), some (.int (a1 + (1 : Int32)))], [], M, 0))) := by rfl
set_option maxRecDepth 100000 in
theorem b_X0_isLost_7 : (fun (v2 : Int32) (v3 : Int32) (M : Mem) (a1 : Int32) => run C_X0_isLost 2 (34, [some (.ref 12), some (.ref 2), some (.int v2), some (.int v3), some (.int a1)], [], M, 0)) = (fun (v2 : Int32) (v3 : Int32) (M : Mem) (a1 : Int32) => some (.inr (.inl (some (.int (0 : Int32))), M, 0))) := by rfl
def g_X0_isLost_1 (v2 : Int32) (M : Mem) : Int32 → Option ((Int32) ⊕ ((Int32) ⊕ Int32)) := fun (a1 : Int32) => (if a1 < (M.1 2 2) then (if (d_X0_leadsToLost v2 a1 M) = 0 then some (.inl (a1 + (1 : Int32))) else some (.inr (.inr (0 : Int32)))) else some (.inr (.inl a1)))
set_option maxHeartbeats 2000000 in
theorem l_X0_isLost_1 (v2 : Int32) (v3 : Int32) (M : Mem) : ∀ a1 : Int32, RG C_X0_isLost ((fun (a1 : Int32) => (15, [some (.ref 12), some (.ref 2), some (.int v2), some (.int v3), some (.int a1)], [], M, 0)) a1) (g_X0_isLost_1 v2 M a1) (lpP (fun (a1 : Int32) => (15, [some (.ref 12), some (.ref 2), some (.int v2), some (.int v3), some (.int a1)], [], M, 0)) (fun (a1 : Int32) => (42, [some (.ref 12), some (.ref 2), some (.int v2), some (.int v3), some (.int a1)], [], M, 0)) (fun (v : Int32) => (.inl (some (.int v)), M))) := by
  intro a1
  unfold g_X0_isLost_1
  show RG C_X0_isLost (15, [some (.ref 12), some (.ref 2), some (.int v2), some (.int v3), some (.int a1)], [], M, 0) _ _
  refine RG.st 4 (congrFun (congrFun (congrFun (congrFun b_X0_isLost_4 v2) v3) M) a1) ?_
  refine RG.ite (fun h3 => RG.brNF (q := 24) h3 rfl ?_) (fun h3 => RG.brNT (q := 42) h3 rfl ?_)
  · refine RG.st 5 (congrFun (congrFun (congrFun (congrFun b_X0_isLost_5 v2) v3) M) a1) ?_
    refine RG.ite (fun h4 => RG.brT (q := 36) h4 rfl ?_) (fun h4 => RG.brF (q := 34) h4 rfl ?_)
    · refine RG.st 2 (congrFun (congrFun (congrFun (congrFun b_X0_isLost_6 v2) v3) M) a1) ?_
      exact RG.to rfl (Rto.refl _)
    · exact RG.fin rfl (Rend.run 2 (congrFun (congrFun (congrFun (congrFun b_X0_isLost_7 v2) v3) M) a1))
  · exact RG.to rfl (Rto.refl _)
set_option maxRecDepth 100000 in
theorem b_X0_isLost_8 : (fun (v2 : Int32) (v3 : Int32) (M : Mem) (a2 : Int32) => run C_X0_isLost 2 (42, [some (.ref 12), some (.ref 2), some (.int v2), some (.int v3), some (.int a2)], [], M, 0)) = (fun (v2 : Int32) (v3 : Int32) (M : Mem) (a2 : Int32) => some (.inr (.inl (some (.int (1 : Int32))), M, 0))) := by rfl
def d_X0_isLost (v2 : Int32) (v3 : Int32) (M : Mem) : Option Int32 := ((d_X4_hold v2.toInt64 v3 M).bind fun w1 => (if w1 = 0 then some (0 : Int32) else (onIt (iter (g_X0_isLost_1 v2 M) 20000 (0 : Int32)) (fun (a2 : Int32) => some (1 : Int32)) (fun r => some r))))
set_option maxHeartbeats 2000000 in
theorem r_X0_isLost (v2 : Int32) (v3 : Int32) (M : Mem) : RG C_X0_isLost (0, [some (.ref 12), some (.ref 2), some (.int v2), some (.int v3), none], [], M, 0) (d_X0_isLost v2 v3 M) (fun v => .inr (.inl (some (.int v)), M)) := by
  unfold d_X0_isLost
  refine RG.st 4 (congrFun (congrFun (congrFun b_X0_isLost_0 v2) v3) M) ?_
  refine RG.bind (fun w1 h1 => RG.st 1 (run_callS (v := some (.int w1)) rfl rfl rfl rfl (bindI h1)) ?_)
  show RG C_X0_isLost (7, [some (.ref 12), some (.ref 2), some (.int v2), some (.int v3), none], [.int w1], M, 0) _ _
  refine RG.st 1 (congrFun (congrFun (congrFun (congrFun b_X0_isLost_1 v2) v3) M) w1) ?_
  refine RG.ite (fun h2 => RG.brNF (q := 10) h2 rfl ?_) (fun h2 => RG.brNT (q := 12) h2 rfl ?_)
  · exact RG.fin rfl (Rend.run 2 (congrFun (congrFun (congrFun b_X0_isLost_2 v2) v3) M))
  · refine RG.st 2 (congrFun (congrFun (congrFun b_X0_isLost_3 v2) v3) M) ?_
    refine RG.loop (hd := (fun (a1 : Int32) => (15, [some (.ref 12), some (.ref 2), some (.int v2), some (.int v3), some (.int a1)], [], M, 0))) (ex := (fun (a1 : Int32) => (42, [some (.ref 12), some (.ref 2), some (.int v2), some (.int v3), some (.int a1)], [], M, 0))) (rt := (fun (v : Int32) => (.inl (some (.int v)), M))) (l_X0_isLost_1 v2 v3 M) (fun a2 => ?_) (fun r v h => by cases h; rfl)
    show RG C_X0_isLost (42, [some (.ref 12), some (.ref 2), some (.int v2), some (.int v3), some (.int a2)], [], M, 0) _ _
    exact RG.fin rfl (Rend.run 2 (congrFun (congrFun (congrFun (congrFun b_X0_isLost_8 v2) v3) M) a2))
def fn_X0_isLost : Fn := fun av M => match av with
  | [.ref r0, .ref r1, .int v2, .int v3] => bif Nat.beq r0 12 && Nat.beq r1 2 then (d_X0_isLost v2 v3 M).bind fun v => some (.inl (some (.int v)), M) else (none)
  | _ => none
theorem cfg_X0_isLost : CfgOK RX0 cX0_isLost (C_X0_isLost) 7 := ⟨tk_X0_isLost, csF_nd, flk_X0, (List.forall_mem_cons.mpr ⟨Or.inr ⟨yX0_leadsToLost, cX0_leadsToLost, 3, (some .boolean), none, 2, ok_X0_leadsToLost, by decide, by decide, w_code_Sumsetry_Game_leadsToLost__II_Z, w_initialized_Sumsetry_Game, ⟨by decide, by decide⟩, Or.inr (Or.inr ⟨rfl, rfl, show (parseMethodDescriptor yX0_leadsToLost.desc).map (fun d => d.parameters.length + 1) = some 3 from by decide +kernel, w_methodLink_Sumsetry_Game_33, w_instanceMethod_Sumsetry_Game_leadsToLost__II_Z, w_selects_Sumsetry_Game_leadsToLost__II_Z, ⟨_, rfl, rfl⟩⟩)⟩,
    List.forall_mem_cons.mpr ⟨Or.inr ⟨yX4_hold, cX4_hold, 4, (some .boolean), none, 6, ok_X4_hold, by decide, by decide, w_code_Sumsetry_Rules_hold__LSumsetry_Group_JI_Z, w_initialized_Sumsetry_Rules, ⟨by decide, by decide⟩, Or.inl ⟨rfl, show (parseMethodDescriptor yX4_hold.desc).map (fun d => d.parameters.length) = some 3 from by decide +kernel, w_methodLink_Sumsetry_Game_41, w_static_Sumsetry_Rules_hold__LSumsetry_Group_JI_Z⟩⟩, fun _ h => absurd h List.not_mem_nil⟩⟩), ink_X0, lgk_X0, fun e h => absurd h List.not_mem_nil, (fun h hh => absurd hh List.not_mem_nil)⟩
theorem ok_X0_isLost : OkM csF yX0_isLost (Cond.code yX0_isLost cX0_isLost 5 (some .boolean)) 7 0 fn_X0_isLost :=
  OkM_of (own := RX0) (C := C_X0_isLost) (by decide +kernel) rfl (cfg_X0_isLost) rfl rfl rfl rfl (by
    intro av M o M' h
    unfold fn_X0_isLost at h
    split at h
    · rename_i r0 r1 v2 v3
      rcases bif_cs h with ⟨hb, h⟩ | ⟨-, h⟩
      · simp only [Bool.and_eq_true] at hb
        obtain ⟨hr0, hr1⟩ := hb
        obtain rfl := Nat.eq_of_beq_eq_true hr0
        obtain rfl := Nat.eq_of_beq_eq_true hr1
        obtain ⟨w, hw, h⟩ := bind_cs h
        cases h
        exact ⟨rfl, Nat.le_of_ble_eq_true rfl, (r_X0_isLost v2 v3 M) w hw⟩
      · cases h
    · cases h)
def d_X7_lay (k : Nat) (n : Int32) (v1 : Int32) (v2 : Int32) (M : Mem) : Mem := (if v1 < 0 then M else (if v1 < n then (sI M k (ix v1) v2) else M))
def t_X7_lay : List (Nat × Instr × Nat) := [(0, .iload_n 1, 1), (1, .ifCond .lt 13, 3), (4, .iload_n 1, 1), (5, .aload_n 0, 1), (6, .arraylength, 1), (7, .if_icmp .ge 7, 3), (10, .aload_n 0, 1), (11, .iload_n 1, 1), (12, .iload_n 2, 1), (13, .iastore, 1), (14, .return_, 1)]
theorem tk_X7_lay : ∀ x ∈ t_X7_lay, decode cX7_lay x.1 = .ok x.2 := by decide +kernel
def C_X7_lay : Cfg := (t_X7_lay, csF, fl_X7, [], in_X7, lg_X7, [], [], none, none, 0)
set_option maxRecDepth 100000 in
theorem b_X7_lay_k3_0 : (fun (v1 : Int32) (v2 : Int32) (M : Mem) => run C_X7_lay 2 (0, [some (.ref 3), some (.int v1), some (.int v2)], [], M, 0)) = (fun (v1 : Int32) (v2 : Int32) (M : Mem) => some (.inl ((br (decide (v1 < 0)) 1 3 (13)), [some (.ref 3), some (.int v1), some (.int v2)], [], M, 0))) := by rfl
set_option maxRecDepth 100000 in
theorem b_X7_lay_k3_1 : (fun (v1 : Int32) (v2 : Int32) (M : Mem) => run C_X7_lay 1 (14, [some (.ref 3), some (.int v1), some (.int v2)], [], M, 0)) = (fun (v1 : Int32) (v2 : Int32) (M : Mem) => some (.inr (.inl none, M, 0))) := by rfl
set_option maxRecDepth 100000 in
theorem b_X7_lay_k3_2 : (fun (v1 : Int32) (v2 : Int32) (M : Mem) => run C_X7_lay 4 (4, [some (.ref 3), some (.int v1), some (.int v2)], [], M, 0)) = (fun (v1 : Int32) (v2 : Int32) (M : Mem) => some (.inl ((br (!decide (v1 < (36 : Int32))) 7 3 (7)), [some (.ref 3), some (.int v1), some (.int v2)], [], M, 0))) := by rfl
set_option maxRecDepth 100000 in
theorem b_X7_lay_k3_3 : (fun (v1 : Int32) (v2 : Int32) (M : Mem) => run C_X7_lay 3 (10, [some (.ref 3), some (.int v1), some (.int v2)], [], M, 0)) = (fun (v1 : Int32) (v2 : Int32) (M : Mem) => some (.inl (13, [some (.ref 3), some (.int v1), some (.int v2)], [.int v2, .int v1, .ref 3], M, 0))) := by rfl
set_option maxRecDepth 100000 in
theorem b_X7_lay_k3_4 : (fun (v1 : Int32) (v2 : Int32) (M : Mem) => stp C_X7_lay (13, [some (.ref 3), some (.int v1), some (.int v2)], [.int v2, .int v1, .ref 3], M, 0)) = (fun (v1 : Int32) (v2 : Int32) (M : Mem) => (if inb v1 36 = true then some (.inl (14, [some (.ref 3), some (.int v1), some (.int v2)], [], (sI M 3 (ix v1) v2), 0)) else none)) := by rfl
set_option maxRecDepth 100000 in
theorem b_X7_lay_k3_5 : (fun (v1 : Int32) (v2 : Int32) (M : Mem) => run C_X7_lay 1 (14, [some (.ref 3), some (.int v1), some (.int v2)], [], (sI M 3 (ix v1) v2), 0)) = (fun (v1 : Int32) (v2 : Int32) (M : Mem) => some (.inr (.inl none, (sI M 3 (ix v1) v2), 0))) := by rfl
set_option maxRecDepth 100000 in
theorem b_X7_lay_k3_6 : (fun (v1 : Int32) (v2 : Int32) (M : Mem) => run C_X7_lay 1 (14, [some (.ref 3), some (.int v1), some (.int v2)], [], M, 0)) = (fun (v1 : Int32) (v2 : Int32) (M : Mem) => some (.inr (.inl none, M, 0))) := by rfl
set_option maxHeartbeats 2000000 in
theorem r_X7_lay_k3 (v1 : Int32) (v2 : Int32) (M : Mem) : RG C_X7_lay (0, [some (.ref 3), some (.int v1), some (.int v2)], [], M, 0) (some (d_X7_lay 3 36 v1 v2 M)) (fun m => .inr (.inl none, m)) := by
  unfold d_X7_lay
  refine RG.st 2 (congrFun (congrFun (congrFun b_X7_lay_k3_0 v1) v2) M) ?_
  refine RG.ites (fun h1 => RG.brT (q := 14) h1 rfl ?_) (fun h1 => RG.brF (q := 4) h1 rfl ?_)
  · exact RG.fin rfl (Rend.run 1 (congrFun (congrFun (congrFun b_X7_lay_k3_1 v1) v2) M))
  · refine RG.st 4 (congrFun (congrFun (congrFun b_X7_lay_k3_2 v1) v2) M) ?_
    refine RG.ites (fun h2 => RG.brNF (q := 10) h2 rfl ?_) (fun h2 => RG.brNT (q := 14) h2 rfl ?_)
    · refine RG.st 3 (congrFun (congrFun (congrFun b_X7_lay_k3_3 v1) v2) M) ?_
      have h3 : (inb v1 36 = true) := inb_of h1 h2 (by decide) (by decide)
      refine RG.st 1 (stp_g h3 (congrFun (congrFun (congrFun b_X7_lay_k3_4 v1) v2) M)) ?_
      exact RG.fin rfl (Rend.run 1 (congrFun (congrFun (congrFun b_X7_lay_k3_5 v1) v2) M))
    · exact RG.fin rfl (Rend.run 1 (congrFun (congrFun (congrFun b_X7_lay_k3_6 v1) v2) M))
set_option maxRecDepth 100000 in
theorem b_X7_lay_k5_0 : (fun (v1 : Int32) (v2 : Int32) (M : Mem) => run C_X7_lay 2 (0, [some (.ref 5), some (.int v1), some (.int v2)], [], M, 0)) = (fun (v1 : Int32) (v2 : Int32) (M : Mem) => some (.inl ((br (decide (v1 < 0)) 1 3 (13)), [some (.ref 5), some (.int v1), some (.int v2)], [], M, 0))) := by rfl
set_option maxRecDepth 100000 in
theorem b_X7_lay_k5_1 : (fun (v1 : Int32) (v2 : Int32) (M : Mem) => run C_X7_lay 1 (14, [some (.ref 5), some (.int v1), some (.int v2)], [], M, 0)) = (fun (v1 : Int32) (v2 : Int32) (M : Mem) => some (.inr (.inl none, M, 0))) := by rfl
set_option maxRecDepth 100000 in
theorem b_X7_lay_k5_2 : (fun (v1 : Int32) (v2 : Int32) (M : Mem) => run C_X7_lay 4 (4, [some (.ref 5), some (.int v1), some (.int v2)], [], M, 0)) = (fun (v1 : Int32) (v2 : Int32) (M : Mem) => some (.inl ((br (!decide (v1 < (6 : Int32))) 7 3 (7)), [some (.ref 5), some (.int v1), some (.int v2)], [], M, 0))) := by rfl
set_option maxRecDepth 100000 in
theorem b_X7_lay_k5_3 : (fun (v1 : Int32) (v2 : Int32) (M : Mem) => run C_X7_lay 3 (10, [some (.ref 5), some (.int v1), some (.int v2)], [], M, 0)) = (fun (v1 : Int32) (v2 : Int32) (M : Mem) => some (.inl (13, [some (.ref 5), some (.int v1), some (.int v2)], [.int v2, .int v1, .ref 5], M, 0))) := by rfl
set_option maxRecDepth 100000 in
theorem b_X7_lay_k5_4 : (fun (v1 : Int32) (v2 : Int32) (M : Mem) => stp C_X7_lay (13, [some (.ref 5), some (.int v1), some (.int v2)], [.int v2, .int v1, .ref 5], M, 0)) = (fun (v1 : Int32) (v2 : Int32) (M : Mem) => (if inb v1 6 = true then some (.inl (14, [some (.ref 5), some (.int v1), some (.int v2)], [], (sI M 5 (ix v1) v2), 0)) else none)) := by rfl
set_option maxRecDepth 100000 in
theorem b_X7_lay_k5_5 : (fun (v1 : Int32) (v2 : Int32) (M : Mem) => run C_X7_lay 1 (14, [some (.ref 5), some (.int v1), some (.int v2)], [], (sI M 5 (ix v1) v2), 0)) = (fun (v1 : Int32) (v2 : Int32) (M : Mem) => some (.inr (.inl none, (sI M 5 (ix v1) v2), 0))) := by rfl
set_option maxRecDepth 100000 in
theorem b_X7_lay_k5_6 : (fun (v1 : Int32) (v2 : Int32) (M : Mem) => run C_X7_lay 1 (14, [some (.ref 5), some (.int v1), some (.int v2)], [], M, 0)) = (fun (v1 : Int32) (v2 : Int32) (M : Mem) => some (.inr (.inl none, M, 0))) := by rfl
set_option maxHeartbeats 2000000 in
theorem r_X7_lay_k5 (v1 : Int32) (v2 : Int32) (M : Mem) : RG C_X7_lay (0, [some (.ref 5), some (.int v1), some (.int v2)], [], M, 0) (some (d_X7_lay 5 6 v1 v2 M)) (fun m => .inr (.inl none, m)) := by
  unfold d_X7_lay
  refine RG.st 2 (congrFun (congrFun (congrFun b_X7_lay_k5_0 v1) v2) M) ?_
  refine RG.ites (fun h1 => RG.brT (q := 14) h1 rfl ?_) (fun h1 => RG.brF (q := 4) h1 rfl ?_)
  · exact RG.fin rfl (Rend.run 1 (congrFun (congrFun (congrFun b_X7_lay_k5_1 v1) v2) M))
  · refine RG.st 4 (congrFun (congrFun (congrFun b_X7_lay_k5_2 v1) v2) M) ?_
    refine RG.ites (fun h2 => RG.brNF (q := 10) h2 rfl ?_) (fun h2 => RG.brNT (q := 14) h2 rfl ?_)
    · refine RG.st 3 (congrFun (congrFun (congrFun b_X7_lay_k5_3 v1) v2) M) ?_
      have h3 : (inb v1 6 = true) := inb_of h1 h2 (by decide) (by decide)
      refine RG.st 1 (stp_g h3 (congrFun (congrFun (congrFun b_X7_lay_k5_4 v1) v2) M)) ?_
      exact RG.fin rfl (Rend.run 1 (congrFun (congrFun (congrFun b_X7_lay_k5_5 v1) v2) M))
    · exact RG.fin rfl (Rend.run 1 (congrFun (congrFun (congrFun b_X7_lay_k5_6 v1) v2) M))
set_option maxRecDepth 100000 in
theorem b_X7_lay_k6_0 : (fun (v1 : Int32) (v2 : Int32) (M : Mem) => run C_X7_lay 2 (0, [some (.ref 6), some (.int v1), some (.int v2)], [], M, 0)) = (fun (v1 : Int32) (v2 : Int32) (M : Mem) => some (.inl ((br (decide (v1 < 0)) 1 3 (13)), [some (.ref 6), some (.int v1), some (.int v2)], [], M, 0))) := by rfl
set_option maxRecDepth 100000 in
theorem b_X7_lay_k6_1 : (fun (v1 : Int32) (v2 : Int32) (M : Mem) => run C_X7_lay 1 (14, [some (.ref 6), some (.int v1), some (.int v2)], [], M, 0)) = (fun (v1 : Int32) (v2 : Int32) (M : Mem) => some (.inr (.inl none, M, 0))) := by rfl
set_option maxRecDepth 100000 in
theorem b_X7_lay_k6_2 : (fun (v1 : Int32) (v2 : Int32) (M : Mem) => run C_X7_lay 4 (4, [some (.ref 6), some (.int v1), some (.int v2)], [], M, 0)) = (fun (v1 : Int32) (v2 : Int32) (M : Mem) => some (.inl ((br (!decide (v1 < (6 : Int32))) 7 3 (7)), [some (.ref 6), some (.int v1), some (.int v2)], [], M, 0))) := by rfl
set_option maxRecDepth 100000 in
theorem b_X7_lay_k6_3 : (fun (v1 : Int32) (v2 : Int32) (M : Mem) => run C_X7_lay 3 (10, [some (.ref 6), some (.int v1), some (.int v2)], [], M, 0)) = (fun (v1 : Int32) (v2 : Int32) (M : Mem) => some (.inl (13, [some (.ref 6), some (.int v1), some (.int v2)], [.int v2, .int v1, .ref 6], M, 0))) := by rfl
set_option maxRecDepth 100000 in
theorem b_X7_lay_k6_4 : (fun (v1 : Int32) (v2 : Int32) (M : Mem) => stp C_X7_lay (13, [some (.ref 6), some (.int v1), some (.int v2)], [.int v2, .int v1, .ref 6], M, 0)) = (fun (v1 : Int32) (v2 : Int32) (M : Mem) => (if inb v1 6 = true then some (.inl (14, [some (.ref 6), some (.int v1), some (.int v2)], [], (sI M 6 (ix v1) v2), 0)) else none)) := by rfl
set_option maxRecDepth 100000 in
theorem b_X7_lay_k6_5 : (fun (v1 : Int32) (v2 : Int32) (M : Mem) => run C_X7_lay 1 (14, [some (.ref 6), some (.int v1), some (.int v2)], [], (sI M 6 (ix v1) v2), 0)) = (fun (v1 : Int32) (v2 : Int32) (M : Mem) => some (.inr (.inl none, (sI M 6 (ix v1) v2), 0))) := by rfl
set_option maxRecDepth 100000 in
theorem b_X7_lay_k6_6 : (fun (v1 : Int32) (v2 : Int32) (M : Mem) => run C_X7_lay 1 (14, [some (.ref 6), some (.int v1), some (.int v2)], [], M, 0)) = (fun (v1 : Int32) (v2 : Int32) (M : Mem) => some (.inr (.inl none, M, 0))) := by rfl
set_option maxHeartbeats 2000000 in
theorem r_X7_lay_k6 (v1 : Int32) (v2 : Int32) (M : Mem) : RG C_X7_lay (0, [some (.ref 6), some (.int v1), some (.int v2)], [], M, 0) (some (d_X7_lay 6 6 v1 v2 M)) (fun m => .inr (.inl none, m)) := by
  unfold d_X7_lay
  refine RG.st 2 (congrFun (congrFun (congrFun b_X7_lay_k6_0 v1) v2) M) ?_
  refine RG.ites (fun h1 => RG.brT (q := 14) h1 rfl ?_) (fun h1 => RG.brF (q := 4) h1 rfl ?_)
  · exact RG.fin rfl (Rend.run 1 (congrFun (congrFun (congrFun b_X7_lay_k6_1 v1) v2) M))
  · refine RG.st 4 (congrFun (congrFun (congrFun b_X7_lay_k6_2 v1) v2) M) ?_
    refine RG.ites (fun h2 => RG.brNF (q := 10) h2 rfl ?_) (fun h2 => RG.brNT (q := 14) h2 rfl ?_)
    · refine RG.st 3 (congrFun (congrFun (congrFun b_X7_lay_k6_3 v1) v2) M) ?_
      have h3 : (inb v1 6 = true) := inb_of h1 h2 (by decide) (by decide)
      refine RG.st 1 (stp_g h3 (congrFun (congrFun (congrFun b_X7_lay_k6_4 v1) v2) M)) ?_
      exact RG.fin rfl (Rend.run 1 (congrFun (congrFun (congrFun b_X7_lay_k6_5 v1) v2) M))
    · exact RG.fin rfl (Rend.run 1 (congrFun (congrFun (congrFun b_X7_lay_k6_6 v1) v2) M))
set_option maxRecDepth 100000 in
theorem b_X7_lay_k7_0 : (fun (v1 : Int32) (v2 : Int32) (M : Mem) => run C_X7_lay 2 (0, [some (.ref 7), some (.int v1), some (.int v2)], [], M, 0)) = (fun (v1 : Int32) (v2 : Int32) (M : Mem) => some (.inl ((br (decide (v1 < 0)) 1 3 (13)), [some (.ref 7), some (.int v1), some (.int v2)], [], M, 0))) := by rfl
set_option maxRecDepth 100000 in
theorem b_X7_lay_k7_1 : (fun (v1 : Int32) (v2 : Int32) (M : Mem) => run C_X7_lay 1 (14, [some (.ref 7), some (.int v1), some (.int v2)], [], M, 0)) = (fun (v1 : Int32) (v2 : Int32) (M : Mem) => some (.inr (.inl none, M, 0))) := by rfl
set_option maxRecDepth 100000 in
theorem b_X7_lay_k7_2 : (fun (v1 : Int32) (v2 : Int32) (M : Mem) => run C_X7_lay 4 (4, [some (.ref 7), some (.int v1), some (.int v2)], [], M, 0)) = (fun (v1 : Int32) (v2 : Int32) (M : Mem) => some (.inl ((br (!decide (v1 < (6 : Int32))) 7 3 (7)), [some (.ref 7), some (.int v1), some (.int v2)], [], M, 0))) := by rfl
set_option maxRecDepth 100000 in
theorem b_X7_lay_k7_3 : (fun (v1 : Int32) (v2 : Int32) (M : Mem) => run C_X7_lay 3 (10, [some (.ref 7), some (.int v1), some (.int v2)], [], M, 0)) = (fun (v1 : Int32) (v2 : Int32) (M : Mem) => some (.inl (13, [some (.ref 7), some (.int v1), some (.int v2)], [.int v2, .int v1, .ref 7], M, 0))) := by rfl
set_option maxRecDepth 100000 in
theorem b_X7_lay_k7_4 : (fun (v1 : Int32) (v2 : Int32) (M : Mem) => stp C_X7_lay (13, [some (.ref 7), some (.int v1), some (.int v2)], [.int v2, .int v1, .ref 7], M, 0)) = (fun (v1 : Int32) (v2 : Int32) (M : Mem) => (if inb v1 6 = true then some (.inl (14, [some (.ref 7), some (.int v1), some (.int v2)], [], (sI M 7 (ix v1) v2), 0)) else none)) := by rfl
set_option maxRecDepth 100000 in
theorem b_X7_lay_k7_5 : (fun (v1 : Int32) (v2 : Int32) (M : Mem) => run C_X7_lay 1 (14, [some (.ref 7), some (.int v1), some (.int v2)], [], (sI M 7 (ix v1) v2), 0)) = (fun (v1 : Int32) (v2 : Int32) (M : Mem) => some (.inr (.inl none, (sI M 7 (ix v1) v2), 0))) := by rfl
set_option maxRecDepth 100000 in
theorem b_X7_lay_k7_6 : (fun (v1 : Int32) (v2 : Int32) (M : Mem) => run C_X7_lay 1 (14, [some (.ref 7), some (.int v1), some (.int v2)], [], M, 0)) = (fun (v1 : Int32) (v2 : Int32) (M : Mem) => some (.inr (.inl none, M, 0))) := by rfl
set_option maxHeartbeats 2000000 in
theorem r_X7_lay_k7 (v1 : Int32) (v2 : Int32) (M : Mem) : RG C_X7_lay (0, [some (.ref 7), some (.int v1), some (.int v2)], [], M, 0) (some (d_X7_lay 7 6 v1 v2 M)) (fun m => .inr (.inl none, m)) := by
  unfold d_X7_lay
  refine RG.st 2 (congrFun (congrFun (congrFun b_X7_lay_k7_0 v1) v2) M) ?_
  refine RG.ites (fun h1 => RG.brT (q := 14) h1 rfl ?_) (fun h1 => RG.brF (q := 4) h1 rfl ?_)
  · exact RG.fin rfl (Rend.run 1 (congrFun (congrFun (congrFun b_X7_lay_k7_1 v1) v2) M))
  · refine RG.st 4 (congrFun (congrFun (congrFun b_X7_lay_k7_2 v1) v2) M) ?_
    refine RG.ites (fun h2 => RG.brNF (q := 10) h2 rfl ?_) (fun h2 => RG.brNT (q := 14) h2 rfl ?_)
    · refine RG.st 3 (congrFun (congrFun (congrFun b_X7_lay_k7_3 v1) v2) M) ?_
      have h3 : (inb v1 6 = true) := inb_of h1 h2 (by decide) (by decide)
      refine RG.st 1 (stp_g h3 (congrFun (congrFun (congrFun b_X7_lay_k7_4 v1) v2) M)) ?_
      exact RG.fin rfl (Rend.run 1 (congrFun (congrFun (congrFun b_X7_lay_k7_5 v1) v2) M))
    · exact RG.fin rfl (Rend.run 1 (congrFun (congrFun (congrFun b_X7_lay_k7_6 v1) v2) M))
set_option maxRecDepth 100000 in
theorem b_X7_lay_k8_0 : (fun (v1 : Int32) (v2 : Int32) (M : Mem) => run C_X7_lay 2 (0, [some (.ref 8), some (.int v1), some (.int v2)], [], M, 0)) = (fun (v1 : Int32) (v2 : Int32) (M : Mem) => some (.inl ((br (decide (v1 < 0)) 1 3 (13)), [some (.ref 8), some (.int v1), some (.int v2)], [], M, 0))) := by rfl
set_option maxRecDepth 100000 in
theorem b_X7_lay_k8_1 : (fun (v1 : Int32) (v2 : Int32) (M : Mem) => run C_X7_lay 1 (14, [some (.ref 8), some (.int v1), some (.int v2)], [], M, 0)) = (fun (v1 : Int32) (v2 : Int32) (M : Mem) => some (.inr (.inl none, M, 0))) := by rfl
set_option maxRecDepth 100000 in
theorem b_X7_lay_k8_2 : (fun (v1 : Int32) (v2 : Int32) (M : Mem) => run C_X7_lay 4 (4, [some (.ref 8), some (.int v1), some (.int v2)], [], M, 0)) = (fun (v1 : Int32) (v2 : Int32) (M : Mem) => some (.inl ((br (!decide (v1 < (6 : Int32))) 7 3 (7)), [some (.ref 8), some (.int v1), some (.int v2)], [], M, 0))) := by rfl
set_option maxRecDepth 100000 in
theorem b_X7_lay_k8_3 : (fun (v1 : Int32) (v2 : Int32) (M : Mem) => run C_X7_lay 3 (10, [some (.ref 8), some (.int v1), some (.int v2)], [], M, 0)) = (fun (v1 : Int32) (v2 : Int32) (M : Mem) => some (.inl (13, [some (.ref 8), some (.int v1), some (.int v2)], [.int v2, .int v1, .ref 8], M, 0))) := by rfl
set_option maxRecDepth 100000 in
theorem b_X7_lay_k8_4 : (fun (v1 : Int32) (v2 : Int32) (M : Mem) => stp C_X7_lay (13, [some (.ref 8), some (.int v1), some (.int v2)], [.int v2, .int v1, .ref 8], M, 0)) = (fun (v1 : Int32) (v2 : Int32) (M : Mem) => (if inb v1 6 = true then some (.inl (14, [some (.ref 8), some (.int v1), some (.int v2)], [], (sI M 8 (ix v1) v2), 0)) else none)) := by rfl
set_option maxRecDepth 100000 in
theorem b_X7_lay_k8_5 : (fun (v1 : Int32) (v2 : Int32) (M : Mem) => run C_X7_lay 1 (14, [some (.ref 8), some (.int v1), some (.int v2)], [], (sI M 8 (ix v1) v2), 0)) = (fun (v1 : Int32) (v2 : Int32) (M : Mem) => some (.inr (.inl none, (sI M 8 (ix v1) v2), 0))) := by rfl
set_option maxRecDepth 100000 in
theorem b_X7_lay_k8_6 : (fun (v1 : Int32) (v2 : Int32) (M : Mem) => run C_X7_lay 1 (14, [some (.ref 8), some (.int v1), some (.int v2)], [], M, 0)) = (fun (v1 : Int32) (v2 : Int32) (M : Mem) => some (.inr (.inl none, M, 0))) := by rfl
set_option maxHeartbeats 2000000 in
theorem r_X7_lay_k8 (v1 : Int32) (v2 : Int32) (M : Mem) : RG C_X7_lay (0, [some (.ref 8), some (.int v1), some (.int v2)], [], M, 0) (some (d_X7_lay 8 6 v1 v2 M)) (fun m => .inr (.inl none, m)) := by
  unfold d_X7_lay
  refine RG.st 2 (congrFun (congrFun (congrFun b_X7_lay_k8_0 v1) v2) M) ?_
  refine RG.ites (fun h1 => RG.brT (q := 14) h1 rfl ?_) (fun h1 => RG.brF (q := 4) h1 rfl ?_)
  · exact RG.fin rfl (Rend.run 1 (congrFun (congrFun (congrFun b_X7_lay_k8_1 v1) v2) M))
  · refine RG.st 4 (congrFun (congrFun (congrFun b_X7_lay_k8_2 v1) v2) M) ?_
    refine RG.ites (fun h2 => RG.brNF (q := 10) h2 rfl ?_) (fun h2 => RG.brNT (q := 14) h2 rfl ?_)
    · refine RG.st 3 (congrFun (congrFun (congrFun b_X7_lay_k8_3 v1) v2) M) ?_
      have h3 : (inb v1 6 = true) := inb_of h1 h2 (by decide) (by decide)
      refine RG.st 1 (stp_g h3 (congrFun (congrFun (congrFun b_X7_lay_k8_4 v1) v2) M)) ?_
      exact RG.fin rfl (Rend.run 1 (congrFun (congrFun (congrFun b_X7_lay_k8_5 v1) v2) M))
    · exact RG.fin rfl (Rend.run 1 (congrFun (congrFun (congrFun b_X7_lay_k8_6 v1) v2) M))
set_option maxRecDepth 100000 in
theorem b_X7_lay_k9_0 : (fun (v1 : Int32) (v2 : Int32) (M : Mem) => run C_X7_lay 2 (0, [some (.ref 9), some (.int v1), some (.int v2)], [], M, 0)) = (fun (v1 : Int32) (v2 : Int32) (M : Mem) => some (.inl ((br (decide (v1 < 0)) 1 3 (13)), [some (.ref 9), some (.int v1), some (.int v2)], [], M, 0))) := by rfl
set_option maxRecDepth 100000 in
theorem b_X7_lay_k9_1 : (fun (v1 : Int32) (v2 : Int32) (M : Mem) => run C_X7_lay 1 (14, [some (.ref 9), some (.int v1), some (.int v2)], [], M, 0)) = (fun (v1 : Int32) (v2 : Int32) (M : Mem) => some (.inr (.inl none, M, 0))) := by rfl
set_option maxRecDepth 100000 in
theorem b_X7_lay_k9_2 : (fun (v1 : Int32) (v2 : Int32) (M : Mem) => run C_X7_lay 4 (4, [some (.ref 9), some (.int v1), some (.int v2)], [], M, 0)) = (fun (v1 : Int32) (v2 : Int32) (M : Mem) => some (.inl ((br (!decide (v1 < (56 : Int32))) 7 3 (7)), [some (.ref 9), some (.int v1), some (.int v2)], [], M, 0))) := by rfl
set_option maxRecDepth 100000 in
theorem b_X7_lay_k9_3 : (fun (v1 : Int32) (v2 : Int32) (M : Mem) => run C_X7_lay 3 (10, [some (.ref 9), some (.int v1), some (.int v2)], [], M, 0)) = (fun (v1 : Int32) (v2 : Int32) (M : Mem) => some (.inl (13, [some (.ref 9), some (.int v1), some (.int v2)], [.int v2, .int v1, .ref 9], M, 0))) := by rfl
set_option maxRecDepth 100000 in
theorem b_X7_lay_k9_4 : (fun (v1 : Int32) (v2 : Int32) (M : Mem) => stp C_X7_lay (13, [some (.ref 9), some (.int v1), some (.int v2)], [.int v2, .int v1, .ref 9], M, 0)) = (fun (v1 : Int32) (v2 : Int32) (M : Mem) => (if inb v1 56 = true then some (.inl (14, [some (.ref 9), some (.int v1), some (.int v2)], [], (sI M 9 (ix v1) v2), 0)) else none)) := by rfl
set_option maxRecDepth 100000 in
theorem b_X7_lay_k9_5 : (fun (v1 : Int32) (v2 : Int32) (M : Mem) => run C_X7_lay 1 (14, [some (.ref 9), some (.int v1), some (.int v2)], [], (sI M 9 (ix v1) v2), 0)) = (fun (v1 : Int32) (v2 : Int32) (M : Mem) => some (.inr (.inl none, (sI M 9 (ix v1) v2), 0))) := by rfl
set_option maxRecDepth 100000 in
theorem b_X7_lay_k9_6 : (fun (v1 : Int32) (v2 : Int32) (M : Mem) => run C_X7_lay 1 (14, [some (.ref 9), some (.int v1), some (.int v2)], [], M, 0)) = (fun (v1 : Int32) (v2 : Int32) (M : Mem) => some (.inr (.inl none, M, 0))) := by rfl
set_option maxHeartbeats 2000000 in
theorem r_X7_lay_k9 (v1 : Int32) (v2 : Int32) (M : Mem) : RG C_X7_lay (0, [some (.ref 9), some (.int v1), some (.int v2)], [], M, 0) (some (d_X7_lay 9 56 v1 v2 M)) (fun m => .inr (.inl none, m)) := by
  unfold d_X7_lay
  refine RG.st 2 (congrFun (congrFun (congrFun b_X7_lay_k9_0 v1) v2) M) ?_
  refine RG.ites (fun h1 => RG.brT (q := 14) h1 rfl ?_) (fun h1 => RG.brF (q := 4) h1 rfl ?_)
  · exact RG.fin rfl (Rend.run 1 (congrFun (congrFun (congrFun b_X7_lay_k9_1 v1) v2) M))
  · refine RG.st 4 (congrFun (congrFun (congrFun b_X7_lay_k9_2 v1) v2) M) ?_
    refine RG.ites (fun h2 => RG.brNF (q := 10) h2 rfl ?_) (fun h2 => RG.brNT (q := 14) h2 rfl ?_)
    · refine RG.st 3 (congrFun (congrFun (congrFun b_X7_lay_k9_3 v1) v2) M) ?_
      have h3 : (inb v1 56 = true) := inb_of h1 h2 (by decide) (by decide)
      refine RG.st 1 (stp_g h3 (congrFun (congrFun (congrFun b_X7_lay_k9_4 v1) v2) M)) ?_
      exact RG.fin rfl (Rend.run 1 (congrFun (congrFun (congrFun b_X7_lay_k9_5 v1) v2) M))
    · exact RG.fin rfl (Rend.run 1 (congrFun (congrFun (congrFun b_X7_lay_k9_6 v1) v2) M))
set_option maxRecDepth 100000 in
theorem b_X7_lay_k10_0 : (fun (v1 : Int32) (v2 : Int32) (M : Mem) => run C_X7_lay 2 (0, [some (.ref 10), some (.int v1), some (.int v2)], [], M, 0)) = (fun (v1 : Int32) (v2 : Int32) (M : Mem) => some (.inl ((br (decide (v1 < 0)) 1 3 (13)), [some (.ref 10), some (.int v1), some (.int v2)], [], M, 0))) := by rfl
set_option maxRecDepth 100000 in
theorem b_X7_lay_k10_1 : (fun (v1 : Int32) (v2 : Int32) (M : Mem) => run C_X7_lay 1 (14, [some (.ref 10), some (.int v1), some (.int v2)], [], M, 0)) = (fun (v1 : Int32) (v2 : Int32) (M : Mem) => some (.inr (.inl none, M, 0))) := by rfl
set_option maxRecDepth 100000 in
theorem b_X7_lay_k10_2 : (fun (v1 : Int32) (v2 : Int32) (M : Mem) => run C_X7_lay 4 (4, [some (.ref 10), some (.int v1), some (.int v2)], [], M, 0)) = (fun (v1 : Int32) (v2 : Int32) (M : Mem) => some (.inl ((br (!decide (v1 < (56 : Int32))) 7 3 (7)), [some (.ref 10), some (.int v1), some (.int v2)], [], M, 0))) := by rfl
set_option maxRecDepth 100000 in
theorem b_X7_lay_k10_3 : (fun (v1 : Int32) (v2 : Int32) (M : Mem) => run C_X7_lay 3 (10, [some (.ref 10), some (.int v1), some (.int v2)], [], M, 0)) = (fun (v1 : Int32) (v2 : Int32) (M : Mem) => some (.inl (13, [some (.ref 10), some (.int v1), some (.int v2)], [.int v2, .int v1, .ref 10], M, 0))) := by rfl
set_option maxRecDepth 100000 in
theorem b_X7_lay_k10_4 : (fun (v1 : Int32) (v2 : Int32) (M : Mem) => stp C_X7_lay (13, [some (.ref 10), some (.int v1), some (.int v2)], [.int v2, .int v1, .ref 10], M, 0)) = (fun (v1 : Int32) (v2 : Int32) (M : Mem) => (if inb v1 56 = true then some (.inl (14, [some (.ref 10), some (.int v1), some (.int v2)], [], (sI M 10 (ix v1) v2), 0)) else none)) := by rfl
set_option maxRecDepth 100000 in
theorem b_X7_lay_k10_5 : (fun (v1 : Int32) (v2 : Int32) (M : Mem) => run C_X7_lay 1 (14, [some (.ref 10), some (.int v1), some (.int v2)], [], (sI M 10 (ix v1) v2), 0)) = (fun (v1 : Int32) (v2 : Int32) (M : Mem) => some (.inr (.inl none, (sI M 10 (ix v1) v2), 0))) := by rfl
set_option maxRecDepth 100000 in
theorem b_X7_lay_k10_6 : (fun (v1 : Int32) (v2 : Int32) (M : Mem) => run C_X7_lay 1 (14, [some (.ref 10), some (.int v1), some (.int v2)], [], M, 0)) = (fun (v1 : Int32) (v2 : Int32) (M : Mem) => some (.inr (.inl none, M, 0))) := by rfl
set_option maxHeartbeats 2000000 in
theorem r_X7_lay_k10 (v1 : Int32) (v2 : Int32) (M : Mem) : RG C_X7_lay (0, [some (.ref 10), some (.int v1), some (.int v2)], [], M, 0) (some (d_X7_lay 10 56 v1 v2 M)) (fun m => .inr (.inl none, m)) := by
  unfold d_X7_lay
  refine RG.st 2 (congrFun (congrFun (congrFun b_X7_lay_k10_0 v1) v2) M) ?_
  refine RG.ites (fun h1 => RG.brT (q := 14) h1 rfl ?_) (fun h1 => RG.brF (q := 4) h1 rfl ?_)
  · exact RG.fin rfl (Rend.run 1 (congrFun (congrFun (congrFun b_X7_lay_k10_1 v1) v2) M))
  · refine RG.st 4 (congrFun (congrFun (congrFun b_X7_lay_k10_2 v1) v2) M) ?_
    refine RG.ites (fun h2 => RG.brNF (q := 10) h2 rfl ?_) (fun h2 => RG.brNT (q := 14) h2 rfl ?_)
    · refine RG.st 3 (congrFun (congrFun (congrFun b_X7_lay_k10_3 v1) v2) M) ?_
      have h3 : (inb v1 56 = true) := inb_of h1 h2 (by decide) (by decide)
      refine RG.st 1 (stp_g h3 (congrFun (congrFun (congrFun b_X7_lay_k10_4 v1) v2) M)) ?_
      exact RG.fin rfl (Rend.run 1 (congrFun (congrFun (congrFun b_X7_lay_k10_5 v1) v2) M))
    · exact RG.fin rfl (Rend.run 1 (congrFun (congrFun (congrFun b_X7_lay_k10_6 v1) v2) M))
set_option maxRecDepth 100000 in
theorem b_X7_lay_k11_0 : (fun (v1 : Int32) (v2 : Int32) (M : Mem) => run C_X7_lay 2 (0, [some (.ref 11), some (.int v1), some (.int v2)], [], M, 0)) = (fun (v1 : Int32) (v2 : Int32) (M : Mem) => some (.inl ((br (decide (v1 < 0)) 1 3 (13)), [some (.ref 11), some (.int v1), some (.int v2)], [], M, 0))) := by rfl
set_option maxRecDepth 100000 in
theorem b_X7_lay_k11_1 : (fun (v1 : Int32) (v2 : Int32) (M : Mem) => run C_X7_lay 1 (14, [some (.ref 11), some (.int v1), some (.int v2)], [], M, 0)) = (fun (v1 : Int32) (v2 : Int32) (M : Mem) => some (.inr (.inl none, M, 0))) := by rfl
set_option maxRecDepth 100000 in
theorem b_X7_lay_k11_2 : (fun (v1 : Int32) (v2 : Int32) (M : Mem) => run C_X7_lay 4 (4, [some (.ref 11), some (.int v1), some (.int v2)], [], M, 0)) = (fun (v1 : Int32) (v2 : Int32) (M : Mem) => some (.inl ((br (!decide (v1 < (36 : Int32))) 7 3 (7)), [some (.ref 11), some (.int v1), some (.int v2)], [], M, 0))) := by rfl
set_option maxRecDepth 100000 in
theorem b_X7_lay_k11_3 : (fun (v1 : Int32) (v2 : Int32) (M : Mem) => run C_X7_lay 3 (10, [some (.ref 11), some (.int v1), some (.int v2)], [], M, 0)) = (fun (v1 : Int32) (v2 : Int32) (M : Mem) => some (.inl (13, [some (.ref 11), some (.int v1), some (.int v2)], [.int v2, .int v1, .ref 11], M, 0))) := by rfl
set_option maxRecDepth 100000 in
theorem b_X7_lay_k11_4 : (fun (v1 : Int32) (v2 : Int32) (M : Mem) => stp C_X7_lay (13, [some (.ref 11), some (.int v1), some (.int v2)], [.int v2, .int v1, .ref 11], M, 0)) = (fun (v1 : Int32) (v2 : Int32) (M : Mem) => (if inb v1 36 = true then some (.inl (14, [some (.ref 11), some (.int v1), some (.int v2)], [], (sI M 11 (ix v1) v2), 0)) else none)) := by rfl
set_option maxRecDepth 100000 in
theorem b_X7_lay_k11_5 : (fun (v1 : Int32) (v2 : Int32) (M : Mem) => run C_X7_lay 1 (14, [some (.ref 11), some (.int v1), some (.int v2)], [], (sI M 11 (ix v1) v2), 0)) = (fun (v1 : Int32) (v2 : Int32) (M : Mem) => some (.inr (.inl none, (sI M 11 (ix v1) v2), 0))) := by rfl
set_option maxRecDepth 100000 in
theorem b_X7_lay_k11_6 : (fun (v1 : Int32) (v2 : Int32) (M : Mem) => run C_X7_lay 1 (14, [some (.ref 11), some (.int v1), some (.int v2)], [], M, 0)) = (fun (v1 : Int32) (v2 : Int32) (M : Mem) => some (.inr (.inl none, M, 0))) := by rfl
set_option maxHeartbeats 2000000 in
theorem r_X7_lay_k11 (v1 : Int32) (v2 : Int32) (M : Mem) : RG C_X7_lay (0, [some (.ref 11), some (.int v1), some (.int v2)], [], M, 0) (some (d_X7_lay 11 36 v1 v2 M)) (fun m => .inr (.inl none, m)) := by
  unfold d_X7_lay
  refine RG.st 2 (congrFun (congrFun (congrFun b_X7_lay_k11_0 v1) v2) M) ?_
  refine RG.ites (fun h1 => RG.brT (q := 14) h1 rfl ?_) (fun h1 => RG.brF (q := 4) h1 rfl ?_)
  · exact RG.fin rfl (Rend.run 1 (congrFun (congrFun (congrFun b_X7_lay_k11_1 v1) v2) M))
  · refine RG.st 4 (congrFun (congrFun (congrFun b_X7_lay_k11_2 v1) v2) M) ?_
    refine RG.ites (fun h2 => RG.brNF (q := 10) h2 rfl ?_) (fun h2 => RG.brNT (q := 14) h2 rfl ?_)
    · refine RG.st 3 (congrFun (congrFun (congrFun b_X7_lay_k11_3 v1) v2) M) ?_
      have h3 : (inb v1 36 = true) := inb_of h1 h2 (by decide) (by decide)
      refine RG.st 1 (stp_g h3 (congrFun (congrFun (congrFun b_X7_lay_k11_4 v1) v2) M)) ?_
      exact RG.fin rfl (Rend.run 1 (congrFun (congrFun (congrFun b_X7_lay_k11_5 v1) v2) M))
    · exact RG.fin rfl (Rend.run 1 (congrFun (congrFun (congrFun b_X7_lay_k11_6 v1) v2) M))
set_option maxRecDepth 100000 in
theorem b_X7_lay_k13_0 : (fun (v1 : Int32) (v2 : Int32) (M : Mem) => run C_X7_lay 2 (0, [some (.ref 13), some (.int v1), some (.int v2)], [], M, 0)) = (fun (v1 : Int32) (v2 : Int32) (M : Mem) => some (.inl ((br (decide (v1 < 0)) 1 3 (13)), [some (.ref 13), some (.int v1), some (.int v2)], [], M, 0))) := by rfl
set_option maxRecDepth 100000 in
theorem b_X7_lay_k13_1 : (fun (v1 : Int32) (v2 : Int32) (M : Mem) => run C_X7_lay 1 (14, [some (.ref 13), some (.int v1), some (.int v2)], [], M, 0)) = (fun (v1 : Int32) (v2 : Int32) (M : Mem) => some (.inr (.inl none, M, 0))) := by rfl
set_option maxRecDepth 100000 in
theorem b_X7_lay_k13_2 : (fun (v1 : Int32) (v2 : Int32) (M : Mem) => run C_X7_lay 4 (4, [some (.ref 13), some (.int v1), some (.int v2)], [], M, 0)) = (fun (v1 : Int32) (v2 : Int32) (M : Mem) => some (.inl ((br (!decide (v1 < (1024 : Int32))) 7 3 (7)), [some (.ref 13), some (.int v1), some (.int v2)], [], M, 0))) := by rfl
set_option maxRecDepth 100000 in
theorem b_X7_lay_k13_3 : (fun (v1 : Int32) (v2 : Int32) (M : Mem) => run C_X7_lay 3 (10, [some (.ref 13), some (.int v1), some (.int v2)], [], M, 0)) = (fun (v1 : Int32) (v2 : Int32) (M : Mem) => some (.inl (13, [some (.ref 13), some (.int v1), some (.int v2)], [.int v2, .int v1, .ref 13], M, 0))) := by rfl
set_option maxRecDepth 100000 in
theorem b_X7_lay_k13_4 : (fun (v1 : Int32) (v2 : Int32) (M : Mem) => stp C_X7_lay (13, [some (.ref 13), some (.int v1), some (.int v2)], [.int v2, .int v1, .ref 13], M, 0)) = (fun (v1 : Int32) (v2 : Int32) (M : Mem) => (if inb v1 1024 = true then some (.inl (14, [some (.ref 13), some (.int v1), some (.int v2)], [], (sI M 13 (ix v1) v2), 0)) else none)) := by rfl
set_option maxRecDepth 100000 in
theorem b_X7_lay_k13_5 : (fun (v1 : Int32) (v2 : Int32) (M : Mem) => run C_X7_lay 1 (14, [some (.ref 13), some (.int v1), some (.int v2)], [], (sI M 13 (ix v1) v2), 0)) = (fun (v1 : Int32) (v2 : Int32) (M : Mem) => some (.inr (.inl none, (sI M 13 (ix v1) v2), 0))) := by rfl
set_option maxRecDepth 100000 in
theorem b_X7_lay_k13_6 : (fun (v1 : Int32) (v2 : Int32) (M : Mem) => run C_X7_lay 1 (14, [some (.ref 13), some (.int v1), some (.int v2)], [], M, 0)) = (fun (v1 : Int32) (v2 : Int32) (M : Mem) => some (.inr (.inl none, M, 0))) := by rfl
set_option maxHeartbeats 2000000 in
theorem r_X7_lay_k13 (v1 : Int32) (v2 : Int32) (M : Mem) : RG C_X7_lay (0, [some (.ref 13), some (.int v1), some (.int v2)], [], M, 0) (some (d_X7_lay 13 1024 v1 v2 M)) (fun m => .inr (.inl none, m)) := by
  unfold d_X7_lay
  refine RG.st 2 (congrFun (congrFun (congrFun b_X7_lay_k13_0 v1) v2) M) ?_
  refine RG.ites (fun h1 => RG.brT (q := 14) h1 rfl ?_) (fun h1 => RG.brF (q := 4) h1 rfl ?_)
  · exact RG.fin rfl (Rend.run 1 (congrFun (congrFun (congrFun b_X7_lay_k13_1 v1) v2) M))
  · refine RG.st 4 (congrFun (congrFun (congrFun b_X7_lay_k13_2 v1) v2) M) ?_
    refine RG.ites (fun h2 => RG.brNF (q := 10) h2 rfl ?_) (fun h2 => RG.brNT (q := 14) h2 rfl ?_)
    · refine RG.st 3 (congrFun (congrFun (congrFun b_X7_lay_k13_3 v1) v2) M) ?_
      have h3 : (inb v1 1024 = true) := inb_of h1 h2 (by decide) (by decide)
      refine RG.st 1 (stp_g h3 (congrFun (congrFun (congrFun b_X7_lay_k13_4 v1) v2) M)) ?_
      exact RG.fin rfl (Rend.run 1 (congrFun (congrFun (congrFun b_X7_lay_k13_5 v1) v2) M))
    · exact RG.fin rfl (Rend.run 1 (congrFun (congrFun (congrFun b_X7_lay_k13_6 v1) v2) M))
set_option maxRecDepth 100000 in
theorem b_X7_lay_k15_0 : (fun (v1 : Int32) (v2 : Int32) (M : Mem) => run C_X7_lay 2 (0, [some (.ref 15), some (.int v1), some (.int v2)], [], M, 0)) = (fun (v1 : Int32) (v2 : Int32) (M : Mem) => some (.inl ((br (decide (v1 < 0)) 1 3 (13)), [some (.ref 15), some (.int v1), some (.int v2)], [], M, 0))) := by rfl
set_option maxRecDepth 100000 in
theorem b_X7_lay_k15_1 : (fun (v1 : Int32) (v2 : Int32) (M : Mem) => run C_X7_lay 1 (14, [some (.ref 15), some (.int v1), some (.int v2)], [], M, 0)) = (fun (v1 : Int32) (v2 : Int32) (M : Mem) => some (.inr (.inl none, M, 0))) := by rfl
set_option maxRecDepth 100000 in
theorem b_X7_lay_k15_2 : (fun (v1 : Int32) (v2 : Int32) (M : Mem) => run C_X7_lay 4 (4, [some (.ref 15), some (.int v1), some (.int v2)], [], M, 0)) = (fun (v1 : Int32) (v2 : Int32) (M : Mem) => some (.inl ((br (!decide (v1 < (12 : Int32))) 7 3 (7)), [some (.ref 15), some (.int v1), some (.int v2)], [], M, 0))) := by rfl
set_option maxRecDepth 100000 in
theorem b_X7_lay_k15_3 : (fun (v1 : Int32) (v2 : Int32) (M : Mem) => run C_X7_lay 3 (10, [some (.ref 15), some (.int v1), some (.int v2)], [], M, 0)) = (fun (v1 : Int32) (v2 : Int32) (M : Mem) => some (.inl (13, [some (.ref 15), some (.int v1), some (.int v2)], [.int v2, .int v1, .ref 15], M, 0))) := by rfl
set_option maxRecDepth 100000 in
theorem b_X7_lay_k15_4 : (fun (v1 : Int32) (v2 : Int32) (M : Mem) => stp C_X7_lay (13, [some (.ref 15), some (.int v1), some (.int v2)], [.int v2, .int v1, .ref 15], M, 0)) = (fun (v1 : Int32) (v2 : Int32) (M : Mem) => (if inb v1 12 = true then some (.inl (14, [some (.ref 15), some (.int v1), some (.int v2)], [], (sI M 15 (ix v1) v2), 0)) else none)) := by rfl
set_option maxRecDepth 100000 in
theorem b_X7_lay_k15_5 : (fun (v1 : Int32) (v2 : Int32) (M : Mem) => run C_X7_lay 1 (14, [some (.ref 15), some (.int v1), some (.int v2)], [], (sI M 15 (ix v1) v2), 0)) = (fun (v1 : Int32) (v2 : Int32) (M : Mem) => some (.inr (.inl none, (sI M 15 (ix v1) v2), 0))) := by rfl
set_option maxRecDepth 100000 in
theorem b_X7_lay_k15_6 : (fun (v1 : Int32) (v2 : Int32) (M : Mem) => run C_X7_lay 1 (14, [some (.ref 15), some (.int v1), some (.int v2)], [], M, 0)) = (fun (v1 : Int32) (v2 : Int32) (M : Mem) => some (.inr (.inl none, M, 0))) := by rfl
set_option maxHeartbeats 2000000 in
theorem r_X7_lay_k15 (v1 : Int32) (v2 : Int32) (M : Mem) : RG C_X7_lay (0, [some (.ref 15), some (.int v1), some (.int v2)], [], M, 0) (some (d_X7_lay 15 12 v1 v2 M)) (fun m => .inr (.inl none, m)) := by
  unfold d_X7_lay
  refine RG.st 2 (congrFun (congrFun (congrFun b_X7_lay_k15_0 v1) v2) M) ?_
  refine RG.ites (fun h1 => RG.brT (q := 14) h1 rfl ?_) (fun h1 => RG.brF (q := 4) h1 rfl ?_)
  · exact RG.fin rfl (Rend.run 1 (congrFun (congrFun (congrFun b_X7_lay_k15_1 v1) v2) M))
  · refine RG.st 4 (congrFun (congrFun (congrFun b_X7_lay_k15_2 v1) v2) M) ?_
    refine RG.ites (fun h2 => RG.brNF (q := 10) h2 rfl ?_) (fun h2 => RG.brNT (q := 14) h2 rfl ?_)
    · refine RG.st 3 (congrFun (congrFun (congrFun b_X7_lay_k15_3 v1) v2) M) ?_
      have h3 : (inb v1 12 = true) := inb_of h1 h2 (by decide) (by decide)
      refine RG.st 1 (stp_g h3 (congrFun (congrFun (congrFun b_X7_lay_k15_4 v1) v2) M)) ?_
      exact RG.fin rfl (Rend.run 1 (congrFun (congrFun (congrFun b_X7_lay_k15_5 v1) v2) M))
    · exact RG.fin rfl (Rend.run 1 (congrFun (congrFun (congrFun b_X7_lay_k15_6 v1) v2) M))
set_option maxRecDepth 100000 in
theorem b_X7_lay_k16_0 : (fun (v1 : Int32) (v2 : Int32) (M : Mem) => run C_X7_lay 2 (0, [some (.ref 16), some (.int v1), some (.int v2)], [], M, 0)) = (fun (v1 : Int32) (v2 : Int32) (M : Mem) => some (.inl ((br (decide (v1 < 0)) 1 3 (13)), [some (.ref 16), some (.int v1), some (.int v2)], [], M, 0))) := by rfl
set_option maxRecDepth 100000 in
theorem b_X7_lay_k16_1 : (fun (v1 : Int32) (v2 : Int32) (M : Mem) => run C_X7_lay 1 (14, [some (.ref 16), some (.int v1), some (.int v2)], [], M, 0)) = (fun (v1 : Int32) (v2 : Int32) (M : Mem) => some (.inr (.inl none, M, 0))) := by rfl
set_option maxRecDepth 100000 in
theorem b_X7_lay_k16_2 : (fun (v1 : Int32) (v2 : Int32) (M : Mem) => run C_X7_lay 4 (4, [some (.ref 16), some (.int v1), some (.int v2)], [], M, 0)) = (fun (v1 : Int32) (v2 : Int32) (M : Mem) => some (.inl ((br (!decide (v1 < (4096 : Int32))) 7 3 (7)), [some (.ref 16), some (.int v1), some (.int v2)], [], M, 0))) := by rfl
set_option maxRecDepth 100000 in
theorem b_X7_lay_k16_3 : (fun (v1 : Int32) (v2 : Int32) (M : Mem) => run C_X7_lay 3 (10, [some (.ref 16), some (.int v1), some (.int v2)], [], M, 0)) = (fun (v1 : Int32) (v2 : Int32) (M : Mem) => some (.inl (13, [some (.ref 16), some (.int v1), some (.int v2)], [.int v2, .int v1, .ref 16], M, 0))) := by rfl
set_option maxRecDepth 100000 in
theorem b_X7_lay_k16_4 : (fun (v1 : Int32) (v2 : Int32) (M : Mem) => stp C_X7_lay (13, [some (.ref 16), some (.int v1), some (.int v2)], [.int v2, .int v1, .ref 16], M, 0)) = (fun (v1 : Int32) (v2 : Int32) (M : Mem) => (if inb v1 4096 = true then some (.inl (14, [some (.ref 16), some (.int v1), some (.int v2)], [], (sI M 16 (ix v1) v2), 0)) else none)) := by rfl
set_option maxRecDepth 100000 in
theorem b_X7_lay_k16_5 : (fun (v1 : Int32) (v2 : Int32) (M : Mem) => run C_X7_lay 1 (14, [some (.ref 16), some (.int v1), some (.int v2)], [], (sI M 16 (ix v1) v2), 0)) = (fun (v1 : Int32) (v2 : Int32) (M : Mem) => some (.inr (.inl none, (sI M 16 (ix v1) v2), 0))) := by rfl
set_option maxRecDepth 100000 in
theorem b_X7_lay_k16_6 : (fun (v1 : Int32) (v2 : Int32) (M : Mem) => run C_X7_lay 1 (14, [some (.ref 16), some (.int v1), some (.int v2)], [], M, 0)) = (fun (v1 : Int32) (v2 : Int32) (M : Mem) => some (.inr (.inl none, M, 0))) := by rfl
set_option maxHeartbeats 2000000 in
theorem r_X7_lay_k16 (v1 : Int32) (v2 : Int32) (M : Mem) : RG C_X7_lay (0, [some (.ref 16), some (.int v1), some (.int v2)], [], M, 0) (some (d_X7_lay 16 4096 v1 v2 M)) (fun m => .inr (.inl none, m)) := by
  unfold d_X7_lay
  refine RG.st 2 (congrFun (congrFun (congrFun b_X7_lay_k16_0 v1) v2) M) ?_
  refine RG.ites (fun h1 => RG.brT (q := 14) h1 rfl ?_) (fun h1 => RG.brF (q := 4) h1 rfl ?_)
  · exact RG.fin rfl (Rend.run 1 (congrFun (congrFun (congrFun b_X7_lay_k16_1 v1) v2) M))
  · refine RG.st 4 (congrFun (congrFun (congrFun b_X7_lay_k16_2 v1) v2) M) ?_
    refine RG.ites (fun h2 => RG.brNF (q := 10) h2 rfl ?_) (fun h2 => RG.brNT (q := 14) h2 rfl ?_)
    · refine RG.st 3 (congrFun (congrFun (congrFun b_X7_lay_k16_3 v1) v2) M) ?_
      have h3 : (inb v1 4096 = true) := inb_of h1 h2 (by decide) (by decide)
      refine RG.st 1 (stp_g h3 (congrFun (congrFun (congrFun b_X7_lay_k16_4 v1) v2) M)) ?_
      exact RG.fin rfl (Rend.run 1 (congrFun (congrFun (congrFun b_X7_lay_k16_5 v1) v2) M))
    · exact RG.fin rfl (Rend.run 1 (congrFun (congrFun (congrFun b_X7_lay_k16_6 v1) v2) M))
set_option maxRecDepth 100000 in
theorem b_X7_lay_k18_0 : (fun (v1 : Int32) (v2 : Int32) (M : Mem) => run C_X7_lay 2 (0, [some (.ref 18), some (.int v1), some (.int v2)], [], M, 0)) = (fun (v1 : Int32) (v2 : Int32) (M : Mem) => some (.inl ((br (decide (v1 < 0)) 1 3 (13)), [some (.ref 18), some (.int v1), some (.int v2)], [], M, 0))) := by rfl
set_option maxRecDepth 100000 in
theorem b_X7_lay_k18_1 : (fun (v1 : Int32) (v2 : Int32) (M : Mem) => run C_X7_lay 1 (14, [some (.ref 18), some (.int v1), some (.int v2)], [], M, 0)) = (fun (v1 : Int32) (v2 : Int32) (M : Mem) => some (.inr (.inl none, M, 0))) := by rfl
set_option maxRecDepth 100000 in
theorem b_X7_lay_k18_2 : (fun (v1 : Int32) (v2 : Int32) (M : Mem) => run C_X7_lay 4 (4, [some (.ref 18), some (.int v1), some (.int v2)], [], M, 0)) = (fun (v1 : Int32) (v2 : Int32) (M : Mem) => some (.inl ((br (!decide (v1 < (36 : Int32))) 7 3 (7)), [some (.ref 18), some (.int v1), some (.int v2)], [], M, 0))) := by rfl
set_option maxRecDepth 100000 in
theorem b_X7_lay_k18_3 : (fun (v1 : Int32) (v2 : Int32) (M : Mem) => run C_X7_lay 3 (10, [some (.ref 18), some (.int v1), some (.int v2)], [], M, 0)) = (fun (v1 : Int32) (v2 : Int32) (M : Mem) => some (.inl (13, [some (.ref 18), some (.int v1), some (.int v2)], [.int v2, .int v1, .ref 18], M, 0))) := by rfl
set_option maxRecDepth 100000 in
theorem b_X7_lay_k18_4 : (fun (v1 : Int32) (v2 : Int32) (M : Mem) => stp C_X7_lay (13, [some (.ref 18), some (.int v1), some (.int v2)], [.int v2, .int v1, .ref 18], M, 0)) = (fun (v1 : Int32) (v2 : Int32) (M : Mem) => (if inb v1 36 = true then some (.inl (14, [some (.ref 18), some (.int v1), some (.int v2)], [], (sI M 18 (ix v1) v2), 0)) else none)) := by rfl
set_option maxRecDepth 100000 in
theorem b_X7_lay_k18_5 : (fun (v1 : Int32) (v2 : Int32) (M : Mem) => run C_X7_lay 1 (14, [some (.ref 18), some (.int v1), some (.int v2)], [], (sI M 18 (ix v1) v2), 0)) = (fun (v1 : Int32) (v2 : Int32) (M : Mem) => some (.inr (.inl none, (sI M 18 (ix v1) v2), 0))) := by rfl
set_option maxRecDepth 100000 in
theorem b_X7_lay_k18_6 : (fun (v1 : Int32) (v2 : Int32) (M : Mem) => run C_X7_lay 1 (14, [some (.ref 18), some (.int v1), some (.int v2)], [], M, 0)) = (fun (v1 : Int32) (v2 : Int32) (M : Mem) => some (.inr (.inl none, M, 0))) := by rfl
set_option maxHeartbeats 2000000 in
theorem r_X7_lay_k18 (v1 : Int32) (v2 : Int32) (M : Mem) : RG C_X7_lay (0, [some (.ref 18), some (.int v1), some (.int v2)], [], M, 0) (some (d_X7_lay 18 36 v1 v2 M)) (fun m => .inr (.inl none, m)) := by
  unfold d_X7_lay
  refine RG.st 2 (congrFun (congrFun (congrFun b_X7_lay_k18_0 v1) v2) M) ?_
  refine RG.ites (fun h1 => RG.brT (q := 14) h1 rfl ?_) (fun h1 => RG.brF (q := 4) h1 rfl ?_)
  · exact RG.fin rfl (Rend.run 1 (congrFun (congrFun (congrFun b_X7_lay_k18_1 v1) v2) M))
  · refine RG.st 4 (congrFun (congrFun (congrFun b_X7_lay_k18_2 v1) v2) M) ?_
    refine RG.ites (fun h2 => RG.brNF (q := 10) h2 rfl ?_) (fun h2 => RG.brNT (q := 14) h2 rfl ?_)
    · refine RG.st 3 (congrFun (congrFun (congrFun b_X7_lay_k18_3 v1) v2) M) ?_
      have h3 : (inb v1 36 = true) := inb_of h1 h2 (by decide) (by decide)
      refine RG.st 1 (stp_g h3 (congrFun (congrFun (congrFun b_X7_lay_k18_4 v1) v2) M)) ?_
      exact RG.fin rfl (Rend.run 1 (congrFun (congrFun (congrFun b_X7_lay_k18_5 v1) v2) M))
    · exact RG.fin rfl (Rend.run 1 (congrFun (congrFun (congrFun b_X7_lay_k18_6 v1) v2) M))
def fn_X7_lay : Fn := fun av M => match av with
  | [.ref r0, .int v1, .int v2] => bif Nat.beq r0 3 then some (.inl none, (d_X7_lay 3 36 v1 v2 M)) else (bif Nat.beq r0 5 then some (.inl none, (d_X7_lay 5 6 v1 v2 M)) else (bif Nat.beq r0 6 then some (.inl none, (d_X7_lay 6 6 v1 v2 M)) else (bif Nat.beq r0 7 then some (.inl none, (d_X7_lay 7 6 v1 v2 M)) else (bif Nat.beq r0 8 then some (.inl none, (d_X7_lay 8 6 v1 v2 M)) else (bif Nat.beq r0 9 then some (.inl none, (d_X7_lay 9 56 v1 v2 M)) else (bif Nat.beq r0 10 then some (.inl none, (d_X7_lay 10 56 v1 v2 M)) else (bif Nat.beq r0 11 then some (.inl none, (d_X7_lay 11 36 v1 v2 M)) else (bif Nat.beq r0 13 then some (.inl none, (d_X7_lay 13 1024 v1 v2 M)) else (bif Nat.beq r0 15 then some (.inl none, (d_X7_lay 15 12 v1 v2 M)) else (bif Nat.beq r0 16 then some (.inl none, (d_X7_lay 16 4096 v1 v2 M)) else (bif Nat.beq r0 18 then some (.inl none, (d_X7_lay 18 36 v1 v2 M)) else (none))))))))))))
  | _ => none
theorem cfg_X7_lay : CfgOK RX7 cX7_lay (C_X7_lay) 1 := ⟨tk_X7_lay, csF_nd, flk_X7, (fun e h => absurd h List.not_mem_nil), ink_X7, lgk_X7, fun e h => absurd h List.not_mem_nil, (fun h hh => absurd hh List.not_mem_nil)⟩
theorem ok_X7_lay : OkM csF yX7_lay (Cond.code yX7_lay cX7_lay 3 none) 1 0 fn_X7_lay :=
  OkM_of (own := RX7) (C := C_X7_lay) (by decide +kernel) rfl (cfg_X7_lay) rfl rfl rfl rfl (by
    intro av M o M' h
    unfold fn_X7_lay at h
    split at h
    · rename_i r0 v1 v2
      rcases bif_cs h with ⟨hb, h⟩ | ⟨-, h⟩
      · skip
        have hr0 := hb
        obtain rfl := Nat.eq_of_beq_eq_true hr0
        cases h
        exact ⟨rfl, Nat.le_of_ble_eq_true rfl, (r_X7_lay_k3 v1 v2 M) _ rfl⟩
      · rcases bif_cs h with ⟨hb, h⟩ | ⟨-, h⟩
        · skip
          have hr0 := hb
          obtain rfl := Nat.eq_of_beq_eq_true hr0
          cases h
          exact ⟨rfl, Nat.le_of_ble_eq_true rfl, (r_X7_lay_k5 v1 v2 M) _ rfl⟩
        · rcases bif_cs h with ⟨hb, h⟩ | ⟨-, h⟩
          · skip
            have hr0 := hb
            obtain rfl := Nat.eq_of_beq_eq_true hr0
            cases h
            exact ⟨rfl, Nat.le_of_ble_eq_true rfl, (r_X7_lay_k6 v1 v2 M) _ rfl⟩
          · rcases bif_cs h with ⟨hb, h⟩ | ⟨-, h⟩
            · skip
              have hr0 := hb
              obtain rfl := Nat.eq_of_beq_eq_true hr0
              cases h
              exact ⟨rfl, Nat.le_of_ble_eq_true rfl, (r_X7_lay_k7 v1 v2 M) _ rfl⟩
            · rcases bif_cs h with ⟨hb, h⟩ | ⟨-, h⟩
              · skip
                have hr0 := hb
                obtain rfl := Nat.eq_of_beq_eq_true hr0
                cases h
                exact ⟨rfl, Nat.le_of_ble_eq_true rfl, (r_X7_lay_k8 v1 v2 M) _ rfl⟩
              · rcases bif_cs h with ⟨hb, h⟩ | ⟨-, h⟩
                · skip
                  have hr0 := hb
                  obtain rfl := Nat.eq_of_beq_eq_true hr0
                  cases h
                  exact ⟨rfl, Nat.le_of_ble_eq_true rfl, (r_X7_lay_k9 v1 v2 M) _ rfl⟩
                · rcases bif_cs h with ⟨hb, h⟩ | ⟨-, h⟩
                  · skip
                    have hr0 := hb
                    obtain rfl := Nat.eq_of_beq_eq_true hr0
                    cases h
                    exact ⟨rfl, Nat.le_of_ble_eq_true rfl, (r_X7_lay_k10 v1 v2 M) _ rfl⟩
                  · rcases bif_cs h with ⟨hb, h⟩ | ⟨-, h⟩
                    · skip
                      have hr0 := hb
                      obtain rfl := Nat.eq_of_beq_eq_true hr0
                      cases h
                      exact ⟨rfl, Nat.le_of_ble_eq_true rfl, (r_X7_lay_k11 v1 v2 M) _ rfl⟩
                    · rcases bif_cs h with ⟨hb, h⟩ | ⟨-, h⟩
                      · skip
                        have hr0 := hb
                        obtain rfl := Nat.eq_of_beq_eq_true hr0
                        cases h
                        exact ⟨rfl, Nat.le_of_ble_eq_true rfl, (r_X7_lay_k13 v1 v2 M) _ rfl⟩
                      · rcases bif_cs h with ⟨hb, h⟩ | ⟨-, h⟩
                        · skip
                          have hr0 := hb
                          obtain rfl := Nat.eq_of_beq_eq_true hr0
                          cases h
                          exact ⟨rfl, Nat.le_of_ble_eq_true rfl, (r_X7_lay_k15 v1 v2 M) _ rfl⟩
                        · rcases bif_cs h with ⟨hb, h⟩ | ⟨-, h⟩
                          · skip
                            have hr0 := hb
                            obtain rfl := Nat.eq_of_beq_eq_true hr0
                            cases h
                            exact ⟨rfl, Nat.le_of_ble_eq_true rfl, (r_X7_lay_k16 v1 v2 M) _ rfl⟩
                          · rcases bif_cs h with ⟨hb, h⟩ | ⟨-, h⟩
                            · skip
                              have hr0 := hb
                              obtain rfl := Nat.eq_of_beq_eq_true hr0
                              cases h
                              exact ⟨rfl, Nat.le_of_ble_eq_true rfl, (r_X7_lay_k18 v1 v2 M) _ rfl⟩
                            · cases h
    · cases h)
