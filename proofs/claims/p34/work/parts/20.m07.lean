/-! methods: J13_numberOfLeadingZeros_95d88, J13_highestOneBit_067f4, X5_branch, X5_byBranches, X5_byAll, X6_isPrime, X6_isRoot, X6_begin, X6_forget, X6_powerOf -/
def t_J13_numberOfLeadingZeros_95d88 : List (Nat × Instr × Nat) := [(0, .lload_n 0, 1), (1, .bipush 32, 2), (3, .lushr, 1), (4, .l2i, 1), (5, .istore_n 2, 1), (6, .iload_n 2, 1), (7, .ifCond .ne 14, 3), (10, .bipush 32, 2), (12, .lload_n 0, 1), (13, .l2i, 1), (14, .invokestatic 308, 3), (17, .iadd, 1), (18, .goto 7, 3), (21, .iload_n 2, 1), (22, .invokestatic 308, 3), (25, .ireturn, 1)]
theorem tk_J13_numberOfLeadingZeros_95d88 : ∀ x ∈ t_J13_numberOfLeadingZeros_95d88, decode cJ13_numberOfLeadingZeros_95d88 x.1 = .ok x.2 := by decide +kernel
def C_J13_numberOfLeadingZeros_95d88 : Cfg := (t_J13_numberOfLeadingZeros_95d88, csF, fl_J13, [(308, 0, 0, 1, 0, fn_J6_numberOfLeadingZeros_0f7a4)], in_J13, lg_J13, [], [], none, (some .int), 0)
set_option maxRecDepth 100000 in
theorem b_J13_numberOfLeadingZeros_95d88_0 : (fun (v0 : Int64) (M : Mem) => run C_J13_numberOfLeadingZeros_95d88 7 (0, [some (.long v0), none, none], [], M, 0)) = (fun (v0 : Int64) (M : Mem) => some (.inl ((br (!decide (((jushr v0 (32 : Int32)).toInt32) = 0)) 7 3 (14)), [some (.long v0), none, some (.int ((jushr v0 (32 : Int32)).toInt32))], [], M, 0))) := by rfl
set_option maxRecDepth 100000 in
theorem b_J13_numberOfLeadingZeros_95d88_1 : (fun (v0 : Int64) (M : Mem) => run C_J13_numberOfLeadingZeros_95d88 7 (10, [some (.long v0), none, some (.int ((jushr v0 (32 : Int32)).toInt32))], [], M, 0)) = (fun (v0 : Int64) (M : Mem) => some (.inr (.inl (some (.int ((32 : Int32) + (d_J6_numberOfLeadingZeros_0f7a4 v0.toInt32)))), M, 0))) := by rfl
set_option maxRecDepth 100000 in
theorem b_J13_numberOfLeadingZeros_95d88_2 : (fun (v0 : Int64) (M : Mem) => run C_J13_numberOfLeadingZeros_95d88 3 (21, [some (.long v0), none, some (.int ((jushr v0 (32 : Int32)).toInt32))], [], M, 0)) = (fun (v0 : Int64) (M : Mem) => some (.inr (.inl (some (.int (d_J6_numberOfLeadingZeros_0f7a4 ((jushr v0 (32 : Int32)).toInt32)))), M, 0))) := by rfl
def d_J13_numberOfLeadingZeros_95d88 (v0 : Int64) : Int32 := (if ((jushr v0 (32 : Int32)).toInt32) = 0 then ((32 : Int32) + (d_J6_numberOfLeadingZeros_0f7a4 v0.toInt32)) else (d_J6_numberOfLeadingZeros_0f7a4 ((jushr v0 (32 : Int32)).toInt32)))
set_option maxHeartbeats 2000000 in
theorem r_J13_numberOfLeadingZeros_95d88 (v0 : Int64) (M : Mem) : RG C_J13_numberOfLeadingZeros_95d88 (0, [some (.long v0), none, none], [], M, 0) (some (d_J13_numberOfLeadingZeros_95d88 v0)) (fun v => .inr (.inl (some (.int v)), M)) := by
  unfold d_J13_numberOfLeadingZeros_95d88
  refine RG.st 7 (congrFun (congrFun b_J13_numberOfLeadingZeros_95d88_0 v0) M) ?_
  refine RG.ites (fun h1 => RG.brNF (q := 10) h1 rfl ?_) (fun h1 => RG.brNT (q := 21) h1 rfl ?_)
  · exact RG.fin rfl (Rend.run 7 (congrFun (congrFun b_J13_numberOfLeadingZeros_95d88_1 v0) M))
  · exact RG.fin rfl (Rend.run 3 (congrFun (congrFun b_J13_numberOfLeadingZeros_95d88_2 v0) M))
def fn_J13_numberOfLeadingZeros_95d88 : Fn := fun av M => match av with
  | [.long v0] => some (.inl (some (.int (d_J13_numberOfLeadingZeros_95d88 v0))), M)
  | _ => none
theorem cfg_J13_numberOfLeadingZeros_95d88 : CfgOK RJ13 cJ13_numberOfLeadingZeros_95d88 (C_J13_numberOfLeadingZeros_95d88) 2 := ⟨tk_J13_numberOfLeadingZeros_95d88, csF_nd, flk_J13, (List.forall_mem_cons.mpr ⟨Or.inr ⟨yJ6_numberOfLeadingZeros_0f7a4, cJ6_numberOfLeadingZeros_0f7a4, 2, (some .int), none, 1, ok_J6_numberOfLeadingZeros_0f7a4, by decide, by decide, w_code_java_lang_Integer_numberOfLeadingZeros__I_I, w_initialized_java_lang_Integer, ⟨by decide, by decide⟩, Or.inl ⟨rfl, show (parseMethodDescriptor yJ6_numberOfLeadingZeros_0f7a4.desc).map (fun d => d.parameters.length) = some 1 from by decide +kernel, w_methodLink_java_lang_Long_308, w_static_java_lang_Integer_numberOfLeadingZeros__I_I⟩⟩, fun _ h => absurd h List.not_mem_nil⟩), ink_J13, lgk_J13, fun e h => absurd h List.not_mem_nil, (fun h hh => absurd hh List.not_mem_nil)⟩
theorem ok_J13_numberOfLeadingZeros_95d88 : OkM csF yJ13_numberOfLeadingZeros_95d88 (Cond.code yJ13_numberOfLeadingZeros_95d88 cJ13_numberOfLeadingZeros_95d88 3 (some .int)) 2 0 fn_J13_numberOfLeadingZeros_95d88 :=
  OkM_of (own := RJ13) (C := C_J13_numberOfLeadingZeros_95d88) (by decide +kernel) rfl (cfg_J13_numberOfLeadingZeros_95d88) rfl rfl rfl rfl (by
    intro av M o M' h
    unfold fn_J13_numberOfLeadingZeros_95d88 at h
    split at h
    · rename_i v0
      cases h
      exact ⟨rfl, Nat.le_of_ble_eq_true rfl, (r_J13_numberOfLeadingZeros_95d88 v0 M) _ rfl⟩
    · cases h)
def t_J13_highestOneBit_067f4 : List (Nat × Instr × Nat) := [(0, .lload_n 0, 1), (1, .ldc2_w 168, 3), (4, .lload_n 0, 1), (5, .invokestatic 98, 3), (8, .lushr, 1), (9, .land, 1), (10, .lreturn, 1)]
theorem tk_J13_highestOneBit_067f4 : ∀ x ∈ t_J13_highestOneBit_067f4, decode cJ13_highestOneBit_067f4 x.1 = .ok x.2 := by decide +kernel
def C_J13_highestOneBit_067f4 : Cfg := (t_J13_highestOneBit_067f4, csF, fl_J13, [(98, 0, 0, 1, 0, fn_J13_numberOfLeadingZeros_95d88)], in_J13, lg_J13, [], [], none, (some .long), 0)
set_option maxRecDepth 100000 in
theorem b_J13_highestOneBit_067f4_0 : (fun (v0 : Int64) (M : Mem) => run C_J13_highestOneBit_067f4 7 (0, [some (.long v0), none], [], M, 0)) = (fun (v0 : Int64) (M : Mem) => some (.inr (.inl (some (.long (v0 &&& (jushr (-9223372036854775808 : Int64) (d_J13_numberOfLeadingZeros_95d88 v0))))), M, 0))) := by rfl
def d_J13_highestOneBit_067f4 (v0 : Int64) : Int64 := (v0 &&& (jushr (-9223372036854775808 : Int64) (d_J13_numberOfLeadingZeros_95d88 v0)))
set_option maxHeartbeats 2000000 in
theorem r_J13_highestOneBit_067f4 (v0 : Int64) (M : Mem) : RG C_J13_highestOneBit_067f4 (0, [some (.long v0), none], [], M, 0) (some (d_J13_highestOneBit_067f4 v0)) (fun v => .inr (.inl (some (.long v)), M)) := by
  unfold d_J13_highestOneBit_067f4
  exact RG.fin rfl (Rend.run 7 (congrFun (congrFun b_J13_highestOneBit_067f4_0 v0) M))
def fn_J13_highestOneBit_067f4 : Fn := fun av M => match av with
  | [.long v0] => some (.inl (some (.long (d_J13_highestOneBit_067f4 v0))), M)
  | _ => none
theorem cfg_J13_highestOneBit_067f4 : CfgOK RJ13 cJ13_highestOneBit_067f4 (C_J13_highestOneBit_067f4) 3 := ⟨tk_J13_highestOneBit_067f4, csF_nd, flk_J13, (List.forall_mem_cons.mpr ⟨Or.inr ⟨yJ13_numberOfLeadingZeros_95d88, cJ13_numberOfLeadingZeros_95d88, 3, (some .int), none, 2, ok_J13_numberOfLeadingZeros_95d88, by decide, by decide, w_code_java_lang_Long_numberOfLeadingZeros__J_I, w_initialized_java_lang_Long, ⟨by decide, by decide⟩, Or.inl ⟨rfl, show (parseMethodDescriptor yJ13_numberOfLeadingZeros_95d88.desc).map (fun d => d.parameters.length) = some 1 from by decide +kernel, w_methodLink_java_lang_Long_98, w_static_java_lang_Long_numberOfLeadingZeros__J_I⟩⟩, fun _ h => absurd h List.not_mem_nil⟩), ink_J13, lgk_J13, fun e h => absurd h List.not_mem_nil, (fun h hh => absurd hh List.not_mem_nil)⟩
theorem ok_J13_highestOneBit_067f4 : OkM csF yJ13_highestOneBit_067f4 (Cond.code yJ13_highestOneBit_067f4 cJ13_highestOneBit_067f4 2 (some .long)) 3 0 fn_J13_highestOneBit_067f4 :=
  OkM_of (own := RJ13) (C := C_J13_highestOneBit_067f4) (by decide +kernel) rfl (cfg_J13_highestOneBit_067f4) rfl rfl rfl rfl (by
    intro av M o M' h
    unfold fn_J13_highestOneBit_067f4 at h
    split at h
    · rename_i v0
      cases h
      exact ⟨rfl, Nat.le_of_ble_eq_true rfl, (r_J13_highestOneBit_067f4 v0 M) _ rfl⟩
    · cases h)
def fl_X5 : List (Nat × Nat × Nat) := []
theorem flk_X5 : ∀ e ∈ fl_X5, fldb RX5 e = true := by decide +kernel
def in_X5 : List (Nat × Int32) := []
theorem ink_X5 : ∀ e ∈ in_X5, Cond.constant RX5 e.1 e.2 ∈ TB := by decide +kernel
def lg_X5 : List (Nat × Int64) := [(25, -1)]
theorem lgk_X5 : ∀ e ∈ lg_X5, Cond.constantLong RX5 e.1 e.2 ∈ TB := by decide +kernel
def t_X5_branch : List (Nat × Instr × Nat) := [(0, .lload 4, 2), (2, .invokestatic 15, 3), (5, .lload_n 2, 1), (6, .invokestatic 15, 3), (9, .iadd, 1), (10, .lload 6, 2), (12, .invokestatic 15, 3), (15, .if_icmp .gt 6, 3), (18, .lload 6, 2), (20, .lreturn, 1), (21, .lload_n 2, 1), (22, .lconst 0, 1), (23, .lcmp, 1), (24, .ifCond .eq 12, 3), (27, .lload_n 2, 1), (28, .invokestatic 15, 3), (31, .bipush 12, 2), (33, .if_icmp .le 6, 3), (36, .lload 4, 2), (38, .lreturn, 1), (39, .lload_n 2, 1), (40, .invokestatic 21, 3), (43, .lstore 8, 2), (45, .aload_n 0, 1), (46, .iload_n 1, 1), (47, .lload_n 2, 1), (48, .lload 8, 2), (50, .ldc2_w 25, 3), (53, .lxor, 1), (54, .land, 1), (55, .lload 4, 2), (57, .lload 6, 2), (59, .invokestatic 9, 3), (62, .lstore 10, 2), (64, .aload_n 0, 1), (65, .lload 4, 2), (67, .lload 8, 2), (69, .lor, 1), (70, .iload_n 1, 1), (71, .invokestatic 27, 3), (74, .ifCond .ne 6, 3), (77, .lload 10, 2), (79, .lreturn, 1), (80, .aload_n 0, 1), (81, .iload_n 1, 1), (82, .lload_n 2, 1), (83, .lload 8, 2), (85, .ldc2_w 25, 3), (88, .lxor, 1), (89, .land, 1), (90, .lload 4, 2), (92, .lload 8, 2), (94, .lor, 1), (95, .lload 10, 2), (97, .invokestatic 9, 3), (100, .lreturn, 1)]
theorem tk_X5_branch : ∀ x ∈ t_X5_branch, decode cX5_branch x.1 = .ok x.2 := by decide +kernel
def d_X5_branch : Nat → Int32 → Int64 → Int64 → Int64 → Mem → Option Int64
  | 0 => fun _ _ _ _ _ => none
  | fu + 1 => fun v1 v2 v4 v6 M => (if ((d_J13_bitCount_95d88 v4) + (d_J13_bitCount_95d88 v2)) ≤ (d_J13_bitCount_95d88 v6) then some v6 else (if (lg_cmp v2 (0 : Int64)) = 0 then some v4 else (if (d_J13_bitCount_95d88 v2) ≤ (12 : Int32) then ((d_X5_branch fu v1 (v2 &&& ((d_J13_highestOneBit_067f4 v2) ^^^ (-1 : Int64))) v4 v6 M).bind fun w1 => ((d_X4_hold (v4 ||| (d_J13_highestOneBit_067f4 v2)) v1 M).bind fun w2 => (if w2 = 0 then some w1 else ((d_X5_branch fu v1 (v2 &&& ((d_J13_highestOneBit_067f4 v2) ^^^ (-1 : Int64))) (v4 ||| (d_J13_highestOneBit_067f4 v2)) w1 M).bind fun w3 => some w3)))) else some v4)))
def fn_X5_branch (fu : Nat) : Fn := fun av M => match av with
  | [.ref r0, .int v1, .long v2, .long v4, .long v6] => bif Nat.beq r0 2 then (d_X5_branch fu v1 v2 v4 v6 M).bind fun v => some (.inl (some (.long v)), M) else (none)
  | _ => none
def C_X5_branch (fu : Nat) : Cfg := (t_X5_branch, csF, fl_X5, [(9, 0, 0, 5, 0, fn_X5_branch fu), (15, 0, 0, 1, 0, fn_J13_bitCount_95d88), (21, 0, 0, 1, 0, fn_J13_highestOneBit_067f4), (27, 0, 0, 3, 0, fn_X4_hold)], in_X5, lg_X5, [], [], none, (some .long), 0)
set_option maxRecDepth 100000 in
theorem b_X5_branch_0 : (fun (fu : Nat) (v1 : Int32) (v2 : Int64) (v4 : Int64) (v6 : Int64) (M : Mem) => run (C_X5_branch fu) 8 (0, [some (.ref 2), some (.int v1), some (.long v2), none, some (.long v4), none, some (.long v6), none, none, none, none, none], [], M, 0)) = (fun (fu : Nat) (v1 : Int32) (v2 : Int64) (v4 : Int64) (v6 : Int64) (M : Mem) => some (.inl ((br (!decide (((d_J13_bitCount_95d88 v4) + (d_J13_bitCount_95d88 v2)) ≤ (d_J13_bitCount_95d88 v6))) 15 3 (6)), [some (.ref 2), some (.int v1), some (.long v2), none, some (.long v4), none, some (.long v6), none, none, none, none, none], [], M, 0))) := by rfl
set_option maxRecDepth 100000 in
theorem b_X5_branch_1 : (fun (fu : Nat) (v1 : Int32) (v2 : Int64) (v4 : Int64) (v6 : Int64) (M : Mem) => run (C_X5_branch fu) 2 (18, [some (.ref 2), some (.int v1), some (.long v2), none, some (.long v4), none, some (.long v6), none, none, none, none, none], [], M, 0)) = (fun (fu : Nat) (v1 : Int32) (v2 : Int64) (v4 : Int64) (v6 : Int64) (M : Mem) => some (.inr (.inl (some (.long v6)), M, 0))) := by rfl
set_option maxRecDepth 100000 in
theorem b_X5_branch_2 : (fun (fu : Nat) (v1 : Int32) (v2 : Int64) (v4 : Int64) (v6 : Int64) (M : Mem) => run (C_X5_branch fu) 4 (21, [some (.ref 2), some (.int v1), some (.long v2), none, some (.long v4), none, some (.long v6), none, none, none, none, none], [], M, 0)) = (fun (fu : Nat) (v1 : Int32) (v2 : Int64) (v4 : Int64) (v6 : Int64) (M : Mem) => some (.inl ((br (decide ((lg_cmp v2 (0 : Int64)) = 0)) 24 3 (12)), [some (.ref 2), some (.int v1), some (.long v2), none, some (.long v4), none, some (.long v6), none, none, none, none, none], [], M, 0))) := by rfl
set_option maxRecDepth 100000 in
theorem b_X5_branch_3 : (fun (fu : Nat) (v1 : Int32) (v2 : Int64) (v4 : Int64) (v6 : Int64) (M : Mem) => run (C_X5_branch fu) 2 (36, [some (.ref 2), some (.int v1), some (.long v2), none, some (.long v4), none, some (.long v6), none, none, none, none, none], [], M, 0)) = (fun (fu : Nat) (v1 : Int32) (v2 : Int64) (v4 : Int64) (v6 : Int64) (M : Mem) => some (.inr (.inl (some (.long v4)), M, 0))) := by rfl
set_option maxRecDepth 100000 in
theorem b_X5_branch_4 : (fun (fu : Nat) (v1 : Int32) (v2 : Int64) (v4 : Int64) (v6 : Int64) (M : Mem) => run (C_X5_branch fu) 4 (27, [some (.ref 2), some (.int v1), some (.long v2), none, some (.long v4), none, some (.long v6), none, none, none, none, none], [], M, 0)) = (fun (fu : Nat) (v1 : Int32) (v2 : Int64) (v4 : Int64) (v6 : Int64) (M : Mem) => some (.inl ((br (decide ((d_J13_bitCount_95d88 v2) ≤ (12 : Int32))) 33 3 (6)), [some (.ref 2), some (.int v1), some (.long v2), none, some (.long v4), none, some (.long v6), none, none, none, none, none], [], M, 0))) := by rfl
set_option maxRecDepth 100000 in
theorem b_X5_branch_5 : (fun (fu : Nat) (v1 : Int32) (v2 : Int64) (v4 : Int64) (v6 : Int64) (M : Mem) => run (C_X5_branch fu) 12 (39, [some (.ref 2), some (.int v1), some (.long v2), none, some (.long v4), none, some (.long v6), none, none, none, none, none], [], M, 0)) = (fun (fu : Nat) (v1 : Int32) (v2 : Int64) (v4 : Int64) (v6 : Int64) (M : Mem) => some (.inl (59, [some (.ref 2), some (.int v1), some (.long v2), none, some (.long v4), none, some (.long v6), none, some (.long (d_J13_highestOneBit_067f4 v2)), none, none, none], [.long v6, .long v4, .long (v2 &&& ((d_J13_highestOneBit_067f4 v2) ^^^ (-1 : Int64))), .int v1, .ref 2], M, 0))) := by rfl
set_option maxRecDepth 100000 in
theorem b_X5_branch_6 : (fun (fu : Nat) (v1 : Int32) (v2 : Int64) (v4 : Int64) (v6 : Int64) (M : Mem) (w1 : Int64) => run (C_X5_branch fu) 6 (62, [some (.ref 2), some (.int v1), some (.long v2), none, some (.long v4), none, some (.long v6), none, some (.long (d_J13_highestOneBit_067f4 v2)), none, none, none], [.long w1], M, 0)) = (fun (fu : Nat) (v1 : Int32) (v2 : Int64) (v4 : Int64) (v6 : Int64) (M : Mem) (w1 : Int64) => some (.inl (71, [some (.ref 2), some (.int v1), some (.long v2), none, some (.long v4), none, some (.long v6), none, some (.long (d_J13_highestOneBit_067f4 v2)), none, some (.long w1), none], [.int v1, .long (v4 ||| (d_J13_highestOneBit_067f4 v2)), .ref 2], M, 0))) := by rfl
set_option maxRecDepth 100000 in
theorem b_X5_branch_7 : (fun (fu : Nat) (v1 : Int32) (v2 : Int64) (v4 : Int64) (v6 : Int64) (M : Mem) (w1 : Int64) (w2 : Int32) => run (C_X5_branch fu) 1 (74, [some (.ref 2), some (.int v1), some (.long v2), none, some (.long v4), none, some (.long v6), none, some (.long (d_J13_highestOneBit_067f4 v2)), none, some (.long w1), none], [.int w2], M, 0)) = (fun (fu : Nat) (v1 : Int32) (v2 : Int64) (v4 : Int64) (v6 : Int64) (M : Mem) (w1 : Int64) (w2 : Int32) => some (.inl ((br (!decide (w2 = 0)) 74 3 (6)), [some (.ref 2), some (.int v1), some (.long v2), none, some (.long v4), none, some (.long v6), none, some (.long (d_J13_highestOneBit_067f4 v2)), none, some (.long w1), none], [], M, 0))) := by rfl
set_option maxRecDepth 100000 in
theorem b_X5_branch_8 : (fun (fu : Nat) (v1 : Int32) (v2 : Int64) (v4 : Int64) (v6 : Int64) (M : Mem) (w1 : Int64) => run (C_X5_branch fu) 2 (77, [some (.ref 2), some (.int v1), some (.long v2), none, some (.long v4), none, some (.long v6), none, some (.long (d_J13_highestOneBit_067f4 v2)), none, some (.long w1), none], [], M, 0)) = (fun (fu : Nat) (v1 : Int32) (v2 : Int64) (v4 : Int64) (v6 : Int64) (M : Mem) (w1 : Int64) => some (.inr (.inl (some (.long w1)), M, 0))) := by rfl
set_option maxRecDepth 100000 in
theorem b_X5_branch_9 : (fun (fu : Nat) (v1 : Int32) (v2 : Int64) (v4 : Int64) (v6 : Int64) (M : Mem) (w1 : Int64) => run (C_X5_branch fu) 11 (80, [some (.ref 2), some (.int v1), some (.long v2), none, some (.long v4), none, some (.long v6), none, some (.long (d_J13_highestOneBit_067f4 v2)), none, some (.long w1), none], [], M, 0)) = (fun (fu : Nat) (v1 : Int32) (v2 : Int64) (v4 : Int64) (v6 : Int64) (M : Mem) (w1 : Int64) => some (.inl (97, [some (.ref 2), some (.int v1), some (.long v2), none, some (.long v4), none, some (.long v6), none, some (.long (d_J13_highestOneBit_067f4 v2)), none, some (.long w1), none], [.long w1, .long (v4 ||| (d_J13_highestOneBit_067f4 v2)), .long (v2 &&& ((d_J13_highestOneBit_067f4 v2) ^^^ (-1 : Int64))), .int v1, .ref 2], M, 0))) := by rfl
set_option maxRecDepth 100000 in
theorem b_X5_branch_10 : (fun (fu : Nat) (v1 : Int32) (v2 : Int64) (v4 : Int64) (v6 : Int64) (M : Mem) (w1 : Int64) (w3 : Int64) => run (C_X5_branch fu) 1 (100, [some (.ref 2), some (.int v1), some (.long v2), none, some (.long v4), none, some (.long v6), none, some (.long (d_J13_highestOneBit_067f4 v2)), none, some (.long w1), none], [.long w3], M, 0)) = (fun (fu : Nat) (v1 : Int32) (v2 : Int64) (v4 : Int64) (v6 : Int64) (M : Mem) (w1 : Int64) (w3 : Int64) => some (.inr (.inl (some (.long w3)), M, 0))) := by rfl
set_option maxRecDepth 100000 in
theorem b_X5_branch_11 : (fun (fu : Nat) (v1 : Int32) (v2 : Int64) (v4 : Int64) (v6 : Int64) (M : Mem) => run (C_X5_branch fu) 2 (36, [some (.ref 2), some (.int v1), some (.long v2), none, some (.long v4), none, some (.long v6), none, none, none, none, none], [], M, 0)) = (fun (fu : Nat) (v1 : Int32) (v2 : Int64) (v4 : Int64) (v6 : Int64) (M : Mem) => some (.inr (.inl (some (.long v4)), M, 0))) := by rfl
set_option maxHeartbeats 2000000 in
theorem r_X5_branch (fu : Nat) (v1 : Int32) (v2 : Int64) (v4 : Int64) (v6 : Int64) (M : Mem) : RG (C_X5_branch fu) (0, [some (.ref 2), some (.int v1), some (.long v2), none, some (.long v4), none, some (.long v6), none, none, none, none, none], [], M, 0) (d_X5_branch (fu + 1) v1 v2 v4 v6 M) (fun v => .inr (.inl (some (.long v)), M)) := by
  show RG _ _ ((if ((d_J13_bitCount_95d88 v4) + (d_J13_bitCount_95d88 v2)) ≤ (d_J13_bitCount_95d88 v6) then some v6 else (if (lg_cmp v2 (0 : Int64)) = 0 then some v4 else (if (d_J13_bitCount_95d88 v2) ≤ (12 : Int32) then ((d_X5_branch fu v1 (v2 &&& ((d_J13_highestOneBit_067f4 v2) ^^^ (-1 : Int64))) v4 v6 M).bind fun w1 => ((d_X4_hold (v4 ||| (d_J13_highestOneBit_067f4 v2)) v1 M).bind fun w2 => (if w2 = 0 then some w1 else ((d_X5_branch fu v1 (v2 &&& ((d_J13_highestOneBit_067f4 v2) ^^^ (-1 : Int64))) (v4 ||| (d_J13_highestOneBit_067f4 v2)) w1 M).bind fun w3 => some w3)))) else some v4)))) _
  refine RG.st 8 (congrFun (congrFun (congrFun (congrFun (congrFun (congrFun b_X5_branch_0 fu) v1) v2) v4) v6) M) ?_
  refine RG.ite (fun h1 => RG.brNF (q := 18) h1 rfl ?_) (fun h1 => RG.brNT (q := 21) h1 rfl ?_)
  · exact RG.fin rfl (Rend.run 2 (congrFun (congrFun (congrFun (congrFun (congrFun (congrFun b_X5_branch_1 fu) v1) v2) v4) v6) M))
  · refine RG.st 4 (congrFun (congrFun (congrFun (congrFun (congrFun (congrFun b_X5_branch_2 fu) v1) v2) v4) v6) M) ?_
    refine RG.ite (fun h2 => RG.brT (q := 36) h2 rfl ?_) (fun h2 => RG.brF (q := 27) h2 rfl ?_)
    · exact RG.fin rfl (Rend.run 2 (congrFun (congrFun (congrFun (congrFun (congrFun (congrFun b_X5_branch_3 fu) v1) v2) v4) v6) M))
    · refine RG.st 4 (congrFun (congrFun (congrFun (congrFun (congrFun (congrFun b_X5_branch_4 fu) v1) v2) v4) v6) M) ?_
      refine RG.ite (fun h3 => RG.brT (q := 39) h3 rfl ?_) (fun h3 => RG.brF (q := 36) h3 rfl ?_)
      · refine RG.st 12 (congrFun (congrFun (congrFun (congrFun (congrFun (congrFun b_X5_branch_5 fu) v1) v2) v4) v6) M) ?_
        refine RG.bind (fun w1 h4 => RG.st 1 (run_callS (v := some (.long w1)) rfl rfl rfl rfl (bindL h4)) ?_)
        show RG (C_X5_branch fu) (62, [some (.ref 2), some (.int v1), some (.long v2), none, some (.long v4), none, some (.long v6), none, some (.long (d_J13_highestOneBit_067f4 v2)), none, none, none], [.long w1], M, 0) _ _
        refine RG.st 6 (congrFun (congrFun (congrFun (congrFun (congrFun (congrFun (congrFun b_X5_branch_6 fu) v1) v2) v4) v6) M) w1) ?_
        refine RG.bind (fun w2 h5 => RG.st 1 (run_callS (v := some (.int w2)) rfl rfl rfl rfl (bindI h5)) ?_)
        show RG (C_X5_branch fu) (74, [some (.ref 2), some (.int v1), some (.long v2), none, some (.long v4), none, some (.long v6), none, some (.long (d_J13_highestOneBit_067f4 v2)), none, some (.long w1), none], [.int w2], M, 0) _ _
        refine RG.st 1 (congrFun (congrFun (congrFun (congrFun (congrFun (congrFun (congrFun (congrFun b_X5_branch_7 fu) v1) v2) v4) v6) M) w1) w2) ?_
        refine RG.ite (fun h6 => RG.brNF (q := 77) h6 rfl ?_) (fun h6 => RG.brNT (q := 80) h6 rfl ?_)
        · exact RG.fin rfl (Rend.run 2 (congrFun (congrFun (congrFun (congrFun (congrFun (congrFun (congrFun b_X5_branch_8 fu) v1) v2) v4) v6) M) w1))
        · refine RG.st 11 (congrFun (congrFun (congrFun (congrFun (congrFun (congrFun (congrFun b_X5_branch_9 fu) v1) v2) v4) v6) M) w1) ?_
          refine RG.bind (fun w3 h7 => RG.st 1 (run_callS (v := some (.long w3)) rfl rfl rfl rfl (bindL h7)) ?_)
          show RG (C_X5_branch fu) (100, [some (.ref 2), some (.int v1), some (.long v2), none, some (.long v4), none, some (.long v6), none, some (.long (d_J13_highestOneBit_067f4 v2)), none, some (.long w1), none], [.long w3], M, 0) _ _
          exact RG.fin rfl (Rend.run 1 (congrFun (congrFun (congrFun (congrFun (congrFun (congrFun (congrFun (congrFun b_X5_branch_10 fu) v1) v2) v4) v6) M) w1) w3))
      · exact RG.fin rfl (Rend.run 2 (congrFun (congrFun (congrFun (congrFun (congrFun (congrFun b_X5_branch_11 fu) v1) v2) v4) v6) M))
theorem cfg_X5_branch (fu : Nat) (ih : OkM csF yX5_branch (Cond.code yX5_branch cX5_branch 12 (some .long)) (7 + fu) 0 (fn_X5_branch fu)) : CfgOK RX5 cX5_branch (C_X5_branch fu) (7 + fu + 1) := ⟨tk_X5_branch, csF_nd, flk_X5, (List.forall_mem_cons.mpr ⟨Or.inr ⟨yX5_branch, cX5_branch, 12, (some .long), none, (7 + fu), ih, by omega, by decide, w_code_Sumsetry_Search_branch__LSumsetry_Group_IJJJ_J, w_initialized_Sumsetry_Search, ⟨by decide, by decide⟩, Or.inl ⟨rfl, show (parseMethodDescriptor yX5_branch.desc).map (fun d => d.parameters.length) = some 5 from by decide +kernel, w_methodLink_Sumsetry_Search_9, w_static_Sumsetry_Search_branch__LSumsetry_Group_IJJJ_J⟩⟩,
    List.forall_mem_cons.mpr ⟨Or.inr ⟨yJ13_bitCount_95d88, cJ13_bitCount_95d88, 2, (some .int), none, 1, ok_J13_bitCount_95d88, by omega, by decide, w_code_java_lang_Long_bitCount__J_I, w_initialized_java_lang_Long, ⟨by decide, by decide⟩, Or.inl ⟨rfl, show (parseMethodDescriptor yJ13_bitCount_95d88.desc).map (fun d => d.parameters.length) = some 1 from by decide +kernel, w_methodLink_Sumsetry_Search_15, w_static_java_lang_Long_bitCount__J_I⟩⟩,
    List.forall_mem_cons.mpr ⟨Or.inr ⟨yJ13_highestOneBit_067f4, cJ13_highestOneBit_067f4, 2, (some .long), none, 3, ok_J13_highestOneBit_067f4, by omega, by decide, w_code_java_lang_Long_highestOneBit__J_J, w_initialized_java_lang_Long, ⟨by decide, by decide⟩, Or.inl ⟨rfl, show (parseMethodDescriptor yJ13_highestOneBit_067f4.desc).map (fun d => d.parameters.length) = some 1 from by decide +kernel, w_methodLink_Sumsetry_Search_21, w_static_java_lang_Long_highestOneBit__J_J⟩⟩,
    List.forall_mem_cons.mpr ⟨Or.inr ⟨yX4_hold, cX4_hold, 4, (some .boolean), none, 6, ok_X4_hold, by omega, by decide, w_code_Sumsetry_Rules_hold__LSumsetry_Group_JI_Z, w_initialized_Sumsetry_Rules, ⟨by decide, by decide⟩, Or.inl ⟨rfl, show (parseMethodDescriptor yX4_hold.desc).map (fun d => d.parameters.length) = some 3 from by decide +kernel, w_methodLink_Sumsetry_Search_27, w_static_Sumsetry_Rules_hold__LSumsetry_Group_JI_Z⟩⟩, fun _ h => absurd h List.not_mem_nil⟩⟩⟩⟩), ink_X5, lgk_X5, fun e h => absurd h List.not_mem_nil, (fun h hh => absurd hh List.not_mem_nil)⟩
theorem ok_X5_branch : ∀ fu : Nat, OkM csF yX5_branch (Cond.code yX5_branch cX5_branch 12 (some .long)) (7 + fu) 0 (fn_X5_branch fu)
  | 0 => fun l hl G sz av M o M' h => by
    exfalso
    unfold fn_X5_branch at h
    split at h
    · rcases bif_cs h with ⟨hb, h⟩ | ⟨-, h⟩ <;> cases h
    · cases h
  | fu + 1 => by
    have ih := ok_X5_branch fu
    exact OkM_of (own := RX5) (C := C_X5_branch fu) (by decide +kernel) rfl (cfg_X5_branch fu ih) rfl rfl rfl rfl (by
    intro av M o M' h
    unfold fn_X5_branch at h
    split at h
    · rename_i r0 v1 v2 v4 v6
      rcases bif_cs h with ⟨hb, h⟩ | ⟨-, h⟩
      · skip
        have hr0 := hb
        obtain rfl := Nat.eq_of_beq_eq_true hr0
        obtain ⟨w, hw, h⟩ := bind_cs h
        cases h
        exact ⟨rfl, Nat.le_of_ble_eq_true rfl, (r_X5_branch fu v1 v2 v4 v6 M) w hw⟩
      · cases h
    · cases h)
def t_X5_byBranches : List (Nat × Instr × Nat) := [(0, .aload_n 0, 1), (1, .iload_n 3, 1), (2, .lload_n 1, 1), (3, .lconst 0, 1), (4, .lconst 0, 1), (5, .invokestatic 9, 3), (8, .lreturn, 1)]
theorem tk_X5_byBranches : ∀ x ∈ t_X5_byBranches, decode cX5_byBranches x.1 = .ok x.2 := by decide +kernel
def C_X5_byBranches : Cfg := (t_X5_byBranches, csF, fl_X5, [(9, 0, 0, 5, 0, fn_X5_branch 14)], in_X5, lg_X5, [], [], none, (some .long), 0)
set_option maxRecDepth 100000 in
theorem b_X5_byBranches_0 : (fun (v1 : Int64) (v3 : Int32) (M : Mem) => run C_X5_byBranches 5 (0, [some (.ref 2), some (.long v1), none, some (.int v3)], [], M, 0)) = (fun (v1 : Int64) (v3 : Int32) (M : Mem) => some (.inl (5, [some (.ref 2), some (.long v1), none, some (.int v3)], [.long (0 : Int64), .long (0 : Int64), .long v1, .int v3, .ref 2], M, 0))) := by rfl
set_option maxRecDepth 100000 in
theorem b_X5_byBranches_1 : (fun (v1 : Int64) (v3 : Int32) (M : Mem) (w1 : Int64) => run C_X5_byBranches 1 (8, [some (.ref 2), some (.long v1), none, some (.int v3)], [.long w1], M, 0)) = (fun (v1 : Int64) (v3 : Int32) (M : Mem) (w1 : Int64) => some (.inr (.inl (some (.long w1)), M, 0))) := by rfl
def d_X5_byBranches (v1 : Int64) (v3 : Int32) (M : Mem) : Option Int64 := ((d_X5_branch 14 v3 v1 (0 : Int64) (0 : Int64) M).bind fun w1 => some w1)
set_option maxHeartbeats 2000000 in
theorem r_X5_byBranches (v1 : Int64) (v3 : Int32) (M : Mem) : RG C_X5_byBranches (0, [some (.ref 2), some (.long v1), none, some (.int v3)], [], M, 0) (d_X5_byBranches v1 v3 M) (fun v => .inr (.inl (some (.long v)), M)) := by
  unfold d_X5_byBranches
  refine RG.st 5 (congrFun (congrFun (congrFun b_X5_byBranches_0 v1) v3) M) ?_
  refine RG.bind (fun w1 h1 => RG.st 1 (run_callS (v := some (.long w1)) rfl rfl rfl rfl (bindL h1)) ?_)
  show RG C_X5_byBranches (8, [some (.ref 2), some (.long v1), none, some (.int v3)], [.long w1], M, 0) _ _
  exact RG.fin rfl (Rend.run 1 (congrFun (congrFun (congrFun (congrFun b_X5_byBranches_1 v1) v3) M) w1))
def fn_X5_byBranches : Fn := fun av M => match av with
  | [.ref r0, .long v1, .int v3] => bif Nat.beq r0 2 then (d_X5_byBranches v1 v3 M).bind fun v => some (.inl (some (.long v)), M) else (none)
  | _ => none
theorem cfg_X5_byBranches : CfgOK RX5 cX5_byBranches (C_X5_byBranches) 22 := ⟨tk_X5_byBranches, csF_nd, flk_X5, (List.forall_mem_cons.mpr ⟨Or.inr ⟨yX5_branch, cX5_branch, 12, (some .long), none, 21, (ok_X5_branch 14), by decide, by decide, w_code_Sumsetry_Search_branch__LSumsetry_Group_IJJJ_J, w_initialized_Sumsetry_Search, ⟨by decide, by decide⟩, Or.inl ⟨rfl, show (parseMethodDescriptor yX5_branch.desc).map (fun d => d.parameters.length) = some 5 from by decide +kernel, w_methodLink_Sumsetry_Search_9, w_static_Sumsetry_Search_branch__LSumsetry_Group_IJJJ_J⟩⟩, fun _ h => absurd h List.not_mem_nil⟩), ink_X5, lgk_X5, fun e h => absurd h List.not_mem_nil, (fun h hh => absurd hh List.not_mem_nil)⟩
theorem ok_X5_byBranches : OkM csF yX5_byBranches (Cond.code yX5_byBranches cX5_byBranches 4 (some .long)) 22 0 fn_X5_byBranches :=
  OkM_of (own := RX5) (C := C_X5_byBranches) (by decide +kernel) rfl (cfg_X5_byBranches) rfl rfl rfl rfl (by
    intro av M o M' h
    unfold fn_X5_byBranches at h
    split at h
    · rename_i r0 v1 v3
      rcases bif_cs h with ⟨hb, h⟩ | ⟨-, h⟩
      · skip
        have hr0 := hb
        obtain rfl := Nat.eq_of_beq_eq_true hr0
        obtain ⟨w, hw, h⟩ := bind_cs h
        cases h
        exact ⟨rfl, Nat.le_of_ble_eq_true rfl, (r_X5_byBranches v1 v3 M) w hw⟩
      · cases h
    · cases h)
def t_X5_byAll : List (Nat × Instr × Nat) := [(0, .lconst 0, 1), (1, .lstore 4, 2), (3, .lconst 0, 1), (4, .lstore 6, 2), (6, .iconst 1, 1), (7, .lload_n 1, 1), (8, .invokestatic 15, 3), (11, .bipush 12, 2), (13, .invokestatic 33, 3), (16, .ishl, 1), (17, .istore 8, 2), (19, .iconst 0, 1), (20, .istore 9, 2), (22, .iload 9, 2), (24, .iload 8, 2), (26, .if_icmp .ge 44, 3), (29, .lload 6, 2), (31, .invokestatic 15, 3), (34, .lload 4, 2), (36, .invokestatic 15, 3), (39, .if_icmp .le 17, 3), (42, .aload_n 0, 1), (43, .lload 6, 2), (45, .iload_n 3, 1), (46, .invokestatic 27, 3), (49, .ifCond .eq 7, 3), (52, .lload 6, 2), (54, .lstore 4, 2), (56, .lload 6, 2), (58, .lload_n 1, 1), (59, .lsub, 1), (60, .lload_n 1, 1), (61, .land, 1), (62, .lstore 6, 2), (64, .iinc 9 1, 3), (67, .goto (-45), 3), (70, .lload 4, 2), (72, .lreturn, 1)]
theorem tk_X5_byAll : ∀ x ∈ t_X5_byAll, decode cX5_byAll x.1 = .ok x.2 := by decide +kernel
def C_X5_byAll : Cfg := (t_X5_byAll, csF, fl_X5, [(15, 0, 0, 1, 0, fn_J13_bitCount_95d88), (27, 0, 0, 3, 0, fn_X4_hold), (33, 0, 0, 2, 0, fn_min)], in_X5, lg_X5, [], [], none, (some .long), 0)
set_option maxRecDepth 100000 in
theorem b_X5_byAll_0 : (fun (v1 : Int64) (v3 : Int32) (M : Mem) => run C_X5_byAll 13 (0, [some (.ref 2), some (.long v1), none, some (.int v3), none, none, none, none, none, none], [], M, 0)) = (fun (v1 : Int64) (v3 : Int32) (M : Mem) => some (.inl (22, [some (.ref 2), some (.long v1), none, some (.int v3), some (.long (0 : Int64)), none, some (.long (0 : Int64)), none, some (.int (jsl (1 : Int32) (jmin (d_J13_bitCount_95d88 v1) (12 : Int32)))), some (.int (0 : Int32))], [], M, 0))) := by rfl
set_option maxRecDepth 100000 in
theorem b_X5_byAll_1 : (fun (v1 : Int64) (v3 : Int32) (M : Mem) (a1 : (Int64 × Int64 × Int32)) => run C_X5_byAll 3 (22, [some (.ref 2), some (.long v1), none, some (.int v3), some (.long a1.1), none, some (.long a1.2.1), none, some (.int (jsl (1 : Int32) (jmin (d_J13_bitCount_95d88 v1) (12 : Int32)))), some (.int a1.2.2)], [], M, 0)) = (fun (v1 : Int64) (v3 : Int32) (M : Mem) (a1 : (Int64 × Int64 × Int32)) => some (.inl ((br (!decide (a1.2.2 < (jsl (1 : Int32) (jmin (d_J13_bitCount_95d88 v1) (12 : Int32))))) 26 3 (44)), [some (.ref 2), some (.long v1), none, some (.int v3), some (.long a1.1), none, some (.long a1.2.1), none, some (.int (jsl (1 : Int32) (jmin (d_J13_bitCount_95d88 v1) (12 : Int32)))), some (.int a1.2.2)], [], M, 0))) := by rfl
set_option maxRecDepth 100000 in
theorem b_X5_byAll_2 : (fun (v1 : Int64) (v3 : Int32) (M : Mem) (a1 : (Int64 × Int64 × Int32)) => run C_X5_byAll 5 (29, [some (.ref 2), some (.long v1), none, some (.int v3), some (.long a1.1), none, some (.long a1.2.1), none, some (.int (jsl (1 : Int32) (jmin (d_J13_bitCount_95d88 v1) (12 : Int32)))), some (.int a1.2.2)], [], M, 0)) = (fun (v1 : Int64) (v3 : Int32) (M : Mem) (a1 : (Int64 × Int64 × Int32)) => some (.inl ((br (decide ((d_J13_bitCount_95d88 a1.2.1) ≤ (d_J13_bitCount_95d88 a1.1))) 39 3 (17)), [some (.ref 2), some (.long v1), none, some (.int v3), some (.long a1.1), none, some (.long a1.2.1), none, some (.int (jsl (1 : Int32) (jmin (d_J13_bitCount_95d88 v1) (12 : Int32)))), some (.int a1.2.2)], [], M, 0))) := by rfl
set_option maxRecDepth 100000 in
theorem b_X5_byAll_3 : (fun (v1 : Int64) (v3 : Int32) (M : Mem) (a1 : (Int64 × Int64 × Int32)) => run C_X5_byAll 8 (56, [some (.ref 2), some (.long v1), none, some (.int v3), some (.long a1.1), none, some (.long a1.2.1), none, some (.int (jsl (1 : Int32) (jmin (d_J13_bitCount_95d88 v1) (12 : Int32)))), some (.int a1.2.2)], [], M, 0)) = (fun (v1 : Int64) (v3 : Int32) (M : Mem) (a1 : (Int64 × Int64 × Int32)) => some (.inl (22, [some (.ref 2), some (.long v1), none, some (.int v3), some (.long a1.1), none, some (.long ((a1.2.1 - v1) &&& v1)), none, some (.int (jsl (1 : Int32) (jmin (d_J13_bitCount_95d88 v1) (12 : Int32)))), some (.int (a1.2.2 + (1 : Int32)))], [], M, 0))) := by rfl
set_option maxRecDepth 100000 in
theorem b_X5_byAll_4 : (fun (v1 : Int64) (v3 : Int32) (M : Mem) (a1 : (Int64 × Int64 × Int32)) => run C_X5_byAll 3 (42, [some (.ref 2), some (.long v1), none, some (.int v3), some (.long a1.1), none, some (.long a1.2.1), none, some (.int (jsl (1 : Int32) (jmin (d_J13_bitCount_95d88 v1) (12 : Int32)))), some (.int a1.2.2)], [], M, 0)) = (fun (v1 : Int64) (v3 : Int32) (M : Mem) (a1 : (Int64 × Int64 × Int32)) => some (.inl (46, [some (.ref 2), some (.long v1), none, some (.int v3), some (.long a1.1), none, some (.long a1.2.1), none, some (.int (jsl (1 : Int32) (jmin (d_J13_bitCount_95d88 v1) (12 : Int32)))), some (.int a1.2.2)], [.int v3, .long a1.2.1, .ref 2], M, 0))) := by rfl
set_option maxRecDepth 100000 in
theorem b_X5_byAll_5 : (fun (v1 : Int64) (v3 : Int32) (M : Mem) (a1 : (Int64 × Int64 × Int32)) (w1 : Int32) => run C_X5_byAll 1 (49, [some (.ref 2), some (.long v1), none, some (.int v3), some (.long a1.1), none, some (.long a1.2.1), none, some (.int (jsl (1 : Int32) (jmin (d_J13_bitCount_95d88 v1) (12 : Int32)))), some (.int a1.2.2)], [.int w1], M, 0)) = (fun (v1 : Int64) (v3 : Int32) (M : Mem) (a1 : (Int64 × Int64 × Int32)) (w1 : Int32) => some (.inl ((br (decide (w1 = 0)) 49 3 (7)), [some (.ref 2), some (.long v1), none, some (.int v3), some (.long a1.1), none, some (.long a1.2.1), none, some (.int (jsl (1 : Int32) (jmin (d_J13_bitCount_95d88 v1) (12 : Int32)))), some (.int a1.2.2)], [], M, 0))) := by rfl
set_option maxRecDepth 100000 in
theorem b_X5_byAll_6 : (fun (v1 : Int64) (v3 : Int32) (M : Mem) (a1 : (Int64 × Int64 × Int32)) => run C_X5_byAll 2 (52, [some (.ref 2), some (.long v1), none, some (.int v3), some (.long a1.1), none, some (.long a1.2.1), none, some (.int (jsl (1 : Int32) (jmin (d_J13_bitCount_95d88 v1) (12 : Int32)))), some (.int a1.2.2)], [], M, 0)) = (fun (v1 : Int64) (v3 : Int32) (M : Mem) (a1 : (Int64 × Int64 × Int32)) => some (.inl (56, [some (.ref 2), some (.long v1), none, some (.int v3), some (.long a1.2.1), none, some (.long a1.2.1), none, some (.int (jsl (1 : Int32) (jmin (d_J13_bitCount_95d88 v1) (12 : Int32)))), some (.int a1.2.2)], [], M, 0))) := by rfl
theorem m_X5_byAll_0 (v1 : Int64) (v3 : Int32) (M : Mem) (a1 : (Int64 × Int64 × Int32)) (w1 : Int32) : Rto C_X5_byAll (49, [some (.ref 2), some (.long v1), none, some (.int v3), some (.long a1.1), none, some (.long a1.2.1), none, some (.int (jsl (1 : Int32) (jmin (d_J13_bitCount_95d88 v1) (12 : Int32)))), some (.int a1.2.2)], [.int w1], M, 0) (56, [some (.ref 2), some (.long v1), none, some (.int v3), some (.long (if w1 = 0 then a1.1 else a1.2.1)), none, some (.long a1.2.1), none, some (.int (jsl (1 : Int32) (jmin (d_J13_bitCount_95d88 v1) (12 : Int32)))), some (.int a1.2.2)], [], M, 0) := by
  refine Rto.trans (Rto.run 1 (congrFun (congrFun (congrFun (congrFun (congrFun b_X5_byAll_5 v1) v3) M) a1) w1)) ?_
  by_cases h : w1 = 0
  · refine Rto.trans (Rto.brT (q := 56) h rfl) ?_
    exact Rto.eq (by first | (simp only [if_pos h]; done) | rfl | exact absurd rfl h | (simp; done))
  · refine Rto.trans (Rto.brF (q := 52) h rfl) ?_
    refine Rto.trans (Rto.run 2 (congrFun (congrFun (congrFun (congrFun b_X5_byAll_6 v1) v3) M) a1)) ?_
    exact Rto.eq (by first | (simp only [if_neg h]; done) | rfl | exact absurd rfl h | (simp; done))
set_option maxRecDepth 100000 in
theorem b_X5_byAll_7 : (fun (v1 : Int64) (v3 : Int32) (M : Mem) (a1 : (Int64 × Int64 × Int32)) (w1 : Int32) => run C_X5_byAll 8 (56, [some (.ref 2), some (.long v1), none, some (.int v3), some (.long (if w1 = 0 then a1.1 else a1.2.1)), none, some (.long a1.2.1), none, some (.int (jsl (1 : Int32) (jmin (d_J13_bitCount_95d88 v1) (12 : Int32)))), some (.int a1.2.2)], [], M, 0)) = (fun (v1 : Int64) (v3 : Int32) (M : Mem) (a1 : (Int64 × Int64 × Int32)) (w1 : Int32) => some (.inl (22, [some (.ref 2), some (.long v1), none, some (.int v3), some (.long (if w1 = 0 then a1.1 else a1.2.1)), none, some (.long ((a1.2.1 - v1) &&& v1)), none, some (.int (jsl (1 : Int32) (jmin (d_J13_bitCount_95d88 v1) (12 : Int32)))), some (.int (a1.2.2 + (1 : Int32)))], [], M, 0))) := by rfl
def g_X5_byAll_1 (v1 : Int64) (v3 : Int32) (M : Mem) : Int64 × Int64 × Int32 → Option ((Int64 × Int64 × Int32) ⊕ ((Int64 × Int64 × Int32) ⊕ Int64)) := fun (a1 : Int64 × Int64 × Int32) => (if a1.2.2 < (jsl (1 : Int32) (jmin (d_J13_bitCount_95d88 v1) (12 : Int32))) then (if (d_J13_bitCount_95d88 a1.2.1) ≤ (d_J13_bitCount_95d88 a1.1) then some (.inl (a1.1, ((a1.2.1 - v1) &&& v1), (a1.2.2 + (1 : Int32)))) else ((d_X4_hold a1.2.1 v3 M).bind fun w1 => some (.inl ((if w1 = 0 then a1.1 else a1.2.1), ((a1.2.1 - v1) &&& v1), (a1.2.2 + (1 : Int32)))))) else some (.inr (.inl (a1.1, a1.2.1, a1.2.2))))
set_option maxHeartbeats 2000000 in
theorem l_X5_byAll_1 (v1 : Int64) (v3 : Int32) (M : Mem) : ∀ a1 : Int64 × Int64 × Int32, RG C_X5_byAll ((fun (a1 : Int64 × Int64 × Int32) => (22, [some (.ref 2), some (.long v1), none, some (.int v3), some (.long a1.1), none, some (.long a1.2.1), none, some (.int (jsl (1 : Int32) (jmin (d_J13_bitCount_95d88 v1) (12 : Int32)))), some (.int a1.2.2)], [], M, 0)) a1) (g_X5_byAll_1 v1 v3 M a1) (lpP (fun (a1 : Int64 × Int64 × Int32) => (22, [some (.ref 2), some (.long v1), none, some (.int v3), some (.long a1.1), none, some (.long a1.2.1), none, some (.int (jsl (1 : Int32) (jmin (d_J13_bitCount_95d88 v1) (12 : Int32)))), some (.int a1.2.2)], [], M, 0)) (fun (a1 : Int64 × Int64 × Int32) => (70, [some (.ref 2), some (.long v1), none, some (.int v3), some (.long a1.1), none, some (.long a1.2.1), none, some (.int (jsl (1 : Int32) (jmin (d_J13_bitCount_95d88 v1) (12 : Int32)))), some (.int a1.2.2)], [], M, 0)) (fun (v : Int64) => (.inl (some (.long v)), M))) := by
  intro a1
  unfold g_X5_byAll_1
  show RG C_X5_byAll (22, [some (.ref 2), some (.long v1), none, some (.int v3), some (.long a1.1), none, some (.long a1.2.1), none, some (.int (jsl (1 : Int32) (jmin (d_J13_bitCount_95d88 v1) (12 : Int32)))), some (.int a1.2.2)], [], M, 0) _ _
  refine RG.st 3 (congrFun (congrFun (congrFun (congrFun b_X5_byAll_1 v1) v3) M) a1) ?_
  refine RG.ite (fun h1 => RG.brNF (q := 29) h1 rfl ?_) (fun h1 => RG.brNT (q := 70) h1 rfl ?_)
  · refine RG.st 5 (congrFun (congrFun (congrFun (congrFun b_X5_byAll_2 v1) v3) M) a1) ?_
    refine RG.ite (fun h2 => RG.brT (q := 56) h2 rfl ?_) (fun h2 => RG.brF (q := 42) h2 rfl ?_)
    · refine RG.st 8 (congrFun (congrFun (congrFun (congrFun b_X5_byAll_3 v1) v3) M) a1) ?_
      exact RG.to rfl (Rto.refl _)
    · refine RG.st 3 (congrFun (congrFun (congrFun (congrFun b_X5_byAll_4 v1) v3) M) a1) ?_
      refine RG.bind (fun w1 h3 => RG.st 1 (run_callS (v := some (.int w1)) rfl rfl rfl rfl (bindI h3)) ?_)
      show RG C_X5_byAll (49, [some (.ref 2), some (.long v1), none, some (.int v3), some (.long a1.1), none, some (.long a1.2.1), none, some (.int (jsl (1 : Int32) (jmin (d_J13_bitCount_95d88 v1) (12 : Int32)))), some (.int a1.2.2)], [.int w1], M, 0) _ _
      refine RG.step (m_X5_byAll_0 v1 v3 M a1 w1) ?_
      refine RG.st 8 (congrFun (congrFun (congrFun (congrFun (congrFun b_X5_byAll_7 v1) v3) M) a1) w1) ?_
      exact RG.to rfl (Rto.refl _)
  · exact RG.to rfl (Rto.refl _)
set_option maxRecDepth 100000 in
theorem b_X5_byAll_8 : (fun (v1 : Int64) (v3 : Int32) (M : Mem) (a2 : (Int64 × Int64 × Int32)) => run C_X5_byAll 2 (70, [some (.ref 2), some (.long v1), none, some (.int v3), some (.long a2.1), none, some (.long a2.2.1), none, some (.int (jsl (1 : Int32) (jmin (d_J13_bitCount_95d88 v1) (12 : Int32)))), some (.int a2.2.2)], [], M, 0)) = (fun (v1 : Int64) (v3 : Int32) (M : Mem) (a2 : (Int64 × Int64 × Int32)) => some (.inr (.inl (some (.long a2.1)), M, 0))) := by rfl
def d_X5_byAll (v1 : Int64) (v3 : Int32) (M : Mem) : Option Int64 := (onIt (iter (g_X5_byAll_1 v1 v3 M) 20000 ((0 : Int64), (0 : Int64), (0 : Int32))) (fun (a2 : Int64 × Int64 × Int32) => some a2.1) (fun r => some r))
set_option maxHeartbeats 2000000 in
theorem r_X5_byAll (v1 : Int64) (v3 : Int32) (M : Mem) : RG C_X5_byAll (0, [some (.ref 2), some (.long v1), none, some (.int v3), none, none, none, none, none, none], [], M, 0) (d_X5_byAll v1 v3 M) (fun v => .inr (.inl (some (.long v)), M)) := by
  unfold d_X5_byAll
  refine RG.st 13 (congrFun (congrFun (congrFun b_X5_byAll_0 v1) v3) M) ?_
  refine RG.loop (hd := (fun (a1 : Int64 × Int64 × Int32) => (22, [some (.ref 2), some (.long v1), none, some (.int v3), some (.long a1.1), none, some (.long a1.2.1), none, some (.int (jsl (1 : Int32) (jmin (d_J13_bitCount_95d88 v1) (12 : Int32)))), some (.int a1.2.2)], [], M, 0))) (ex := (fun (a1 : Int64 × Int64 × Int32) => (70, [some (.ref 2), some (.long v1), none, some (.int v3), some (.long a1.1), none, some (.long a1.2.1), none, some (.int (jsl (1 : Int32) (jmin (d_J13_bitCount_95d88 v1) (12 : Int32)))), some (.int a1.2.2)], [], M, 0))) (rt := (fun (v : Int64) => (.inl (some (.long v)), M))) (l_X5_byAll_1 v1 v3 M) (fun a2 => ?_) (fun r v h => by cases h; rfl)
  show RG C_X5_byAll (70, [some (.ref 2), some (.long v1), none, some (.int v3), some (.long a2.1), none, some (.long a2.2.1), none, some (.int (jsl (1 : Int32) (jmin (d_J13_bitCount_95d88 v1) (12 : Int32)))), some (.int a2.2.2)], [], M, 0) _ _
  exact RG.fin rfl (Rend.run 2 (congrFun (congrFun (congrFun (congrFun b_X5_byAll_8 v1) v3) M) a2))
def fn_X5_byAll : Fn := fun av M => match av with
  | [.ref r0, .long v1, .int v3] => bif Nat.beq r0 2 then (d_X5_byAll v1 v3 M).bind fun v => some (.inl (some (.long v)), M) else (none)
  | _ => none
theorem cfg_X5_byAll : CfgOK RX5 cX5_byAll (C_X5_byAll) 7 := ⟨tk_X5_byAll, csF_nd, flk_X5, (List.forall_mem_cons.mpr ⟨Or.inr ⟨yJ13_bitCount_95d88, cJ13_bitCount_95d88, 2, (some .int), none, 1, ok_J13_bitCount_95d88, by decide, by decide, w_code_java_lang_Long_bitCount__J_I, w_initialized_java_lang_Long, ⟨by decide, by decide⟩, Or.inl ⟨rfl, show (parseMethodDescriptor yJ13_bitCount_95d88.desc).map (fun d => d.parameters.length) = some 1 from by decide +kernel, w_methodLink_Sumsetry_Search_15, w_static_java_lang_Long_bitCount__J_I⟩⟩,
    List.forall_mem_cons.mpr ⟨Or.inr ⟨yX4_hold, cX4_hold, 4, (some .boolean), none, 6, ok_X4_hold, by decide, by decide, w_code_Sumsetry_Rules_hold__LSumsetry_Group_JI_Z, w_initialized_Sumsetry_Rules, ⟨by decide, by decide⟩, Or.inl ⟨rfl, show (parseMethodDescriptor yX4_hold.desc).map (fun d => d.parameters.length) = some 3 from by decide +kernel, w_methodLink_Sumsetry_Search_27, w_static_Sumsetry_Rules_hold__LSumsetry_Group_JI_Z⟩⟩,
    List.forall_mem_cons.mpr ⟨Or.inl ⟨rfl, rfl, rfl, rfl, by decide, w_methodLink_Sumsetry_Search_33, w_static_java_lang_Math_min__II_I, w_initialized_java_lang_Math, w_code_java_lang_Math_min__II_I⟩, fun _ h => absurd h List.not_mem_nil⟩⟩⟩), ink_X5, lgk_X5, fun e h => absurd h List.not_mem_nil, (fun h hh => absurd hh List.not_mem_nil)⟩
theorem ok_X5_byAll : OkM csF yX5_byAll (Cond.code yX5_byAll cX5_byAll 10 (some .long)) 7 0 fn_X5_byAll :=
  OkM_of (own := RX5) (C := C_X5_byAll) (by decide +kernel) rfl (cfg_X5_byAll) rfl rfl rfl rfl (by
    intro av M o M' h
    unfold fn_X5_byAll at h
    split at h
    · rename_i r0 v1 v3
      rcases bif_cs h with ⟨hb, h⟩ | ⟨-, h⟩
      · skip
        have hr0 := hb
        obtain rfl := Nat.eq_of_beq_eq_true hr0
        obtain ⟨w, hw, h⟩ := bind_cs h
        cases h
        exact ⟨rfl, Nat.le_of_ble_eq_true rfl, (r_X5_byAll v1 v3 M) w hw⟩
      · cases h
    · cases h)
def fl_X6 : List (Nat × Nat × Nat) := [(9, 17, 2), (19, 17, 0), (23, 17, 1)]
theorem flk_X6 : ∀ e ∈ fl_X6, fldb RX6 e = true := by decide +kernel
def in_X6 : List (Nat × Int32) := []
theorem ink_X6 : ∀ e ∈ in_X6, Cond.constant RX6 e.1 e.2 ∈ TB := by decide +kernel
def lg_X6 : List (Nat × Int64) := []
theorem lgk_X6 : ∀ e ∈ lg_X6, Cond.constantLong RX6 e.1 e.2 ∈ TB := by decide +kernel
def t_X6_isPrime : List (Nat × Instr × Nat) := [(0, .iconst 2, 1), (1, .istore_n 1, 1), (2, .iload_n 1, 1), (3, .bipush 99, 2), (5, .if_icmp .gt 24, 3), (8, .iload_n 1, 1), (9, .iload_n 0, 1), (10, .if_icmp .ge 19, 3), (13, .iload_n 0, 1), (14, .iload_n 1, 1), (15, .invokestatic 15, 3), (18, .ifCond .ne 5, 3), (21, .iconst 0, 1), (22, .ireturn, 1), (23, .iinc 1 1, 3), (26, .goto (-24), 3), (29, .iload_n 0, 1), (30, .iconst 1, 1), (31, .if_icmp .le 7, 3), (34, .iconst 1, 1), (35, .goto 4, 3), (38, .iconst 0, 1), (39, .ireturn, 1)]
theorem tk_X6_isPrime : ∀ x ∈ t_X6_isPrime, decode cX6_isPrime x.1 = .ok x.2 := by decide +kernel
def C_X6_isPrime : Cfg := (t_X6_isPrime, csF, fl_X6, [(15, 1, 5, 2, 0, fn_X7_rest)], in_X6, lg_X6, [], [], none, (some .boolean), 0)
set_option maxRecDepth 100000 in
theorem b_X6_isPrime_0 : (fun (v0 : Int32) (M : Mem) => run C_X6_isPrime 2 (0, [some (.int v0), none], [], M, 0)) = (fun (v0 : Int32) (M : Mem) => some (.inl (2, [some (.int v0), some (.int (2 : Int32))], [], M, 0))) := by rfl
set_option maxRecDepth 100000 in
theorem b_X6_isPrime_1 : (fun (v0 : Int32) (M : Mem) (a1 : Int32) => run C_X6_isPrime 3 (2, [some (.int v0), some (.int a1)], [], M, 0)) = (fun (v0 : Int32) (M : Mem) (a1 : Int32) => some (.inl ((br (!decide (a1 ≤ (99 : Int32))) 5 3 (24)), [some (.int v0), some (.int a1)], [], M, 0))) := by rfl
set_option maxRecDepth 100000 in
theorem b_X6_isPrime_2 : (fun (v0 : Int32) (M : Mem) (a1 : Int32) => run C_X6_isPrime 3 (8, [some (.int v0), some (.int a1)], [], M, 0)) = (fun (v0 : Int32) (M : Mem) (a1 : Int32) => some (.inl ((br (!decide (a1 < v0)) 10 3 (19)), [some (.int v0), some (.int a1)], [], M, 0))) := by rfl
set_option maxRecDepth 100000 in
theorem b_X6_isPrime_3 : (fun (v0 : Int32) (M : Mem) (a1 : Int32) => run C_X6_isPrime 4 (13, [some (.int v0), some (.int a1)], [], M, 0)) = (fun (v0 : Int32) (M : Mem) (a1 : Int32) => some (.inl ((br (!decide ((d_X7_rest v0 a1) = 0)) 18 3 (5)), [some (.int v0), some (.int a1)], [], M, 0))) := by rfl
set_option maxRecDepth 100000 in
theorem b_X6_isPrime_4 : (fun (v0 : Int32) (M : Mem) (a1 : Int32) => run C_X6_isPrime 2 (21, [some (.int v0), some (.int a1)], [], M, 0)) = (fun (v0 : Int32) (M : Mem) (a1 : Int32) => some (.inr (.inl (some (.int (0 : Int32))), M, 0))) := by rfl
set_option maxRecDepth 100000 in
theorem b_X6_isPrime_5 : (fun (v0 : Int32) (M : Mem) (a1 : Int32) => run C_X6_isPrime 2 (23, [some (.int v0), some (.int a1)], [], M, 0)) = (fun (v0 : Int32) (M : Mem) (a1 : Int32) => some (.inl (2, [some (.int v0), some (.int (a1 + (1 : Int32)))], [], M, 0))) := by rfl
def g_X6_isPrime_1 (v0 : Int32) : Int32 → Option ((Int32) ⊕ ((Int32) ⊕ Int32)) := fun (a1 : Int32) => (if a1 ≤ (99 : Int32) then (if a1 < v0 then (if (d_X7_rest v0 a1) = 0 then some (.inr (.inr (0 : Int32))) else some (.inl (a1 + (1 : Int32)))) else some (.inr (.inl a1))) else some (.inr (.inl a1)))
set_option maxHeartbeats 2000000 in
theorem l_X6_isPrime_1 (v0 : Int32) (M : Mem) : ∀ a1 : Int32, RG C_X6_isPrime ((fun (a1 : Int32) => (2, [some (.int v0), some (.int a1)], [], M, 0)) a1) (g_X6_isPrime_1 v0 a1) (lpP (fun (a1 : Int32) => (2, [some (.int v0), some (.int a1)], [], M, 0)) (fun (a1 : Int32) => (29, [some (.int v0), some (.int a1)], [], M, 0)) (fun (v : Int32) => (.inl (some (.int v)), M))) := by
  intro a1
  unfold g_X6_isPrime_1
  show RG C_X6_isPrime (2, [some (.int v0), some (.int a1)], [], M, 0) _ _
  refine RG.st 3 (congrFun (congrFun (congrFun b_X6_isPrime_1 v0) M) a1) ?_
  refine RG.ite (fun h1 => RG.brNF (q := 8) h1 rfl ?_) (fun h1 => RG.brNT (q := 29) h1 rfl ?_)
  · refine RG.st 3 (congrFun (congrFun (congrFun b_X6_isPrime_2 v0) M) a1) ?_
    refine RG.ite (fun h2 => RG.brNF (q := 13) h2 rfl ?_) (fun h2 => RG.brNT (q := 29) h2 rfl ?_)
    · refine RG.st 4 (congrFun (congrFun (congrFun b_X6_isPrime_3 v0) M) a1) ?_
      refine RG.ite (fun h3 => RG.brNF (q := 21) h3 rfl ?_) (fun h3 => RG.brNT (q := 23) h3 rfl ?_)
      · exact RG.fin rfl (Rend.run 2 (congrFun (congrFun (congrFun b_X6_isPrime_4 v0) M) a1))
      · refine RG.st 2 (congrFun (congrFun (congrFun b_X6_isPrime_5 v0) M) a1) ?_
        exact RG.to rfl (Rto.refl _)
    · exact RG.to rfl (Rto.refl _)
  · exact RG.to rfl (Rto.refl _)
set_option maxRecDepth 100000 in
theorem b_X6_isPrime_6 : (fun (v0 : Int32) (M : Mem) (a2 : Int32) => run C_X6_isPrime 3 (29, [some (.int v0), some (.int a2)], [], M, 0)) = (fun (v0 : Int32) (M : Mem) (a2 : Int32) => some (.inl ((br (decide (v0 ≤ (1 : Int32))) 31 3 (7)), [some (.int v0), some (.int a2)], [], M, 0))) := by rfl
set_option maxRecDepth 100000 in
theorem b_X6_isPrime_7 : (fun (v0 : Int32) (M : Mem) (a2 : Int32) => run C_X6_isPrime 2 (38, [some (.int v0), some (.int a2)], [], M, 0)) = (fun (v0 : Int32) (M : Mem) (a2 : Int32) => some (.inr (.inl (some (.int (0 : Int32))), M, 0))) := by rfl
set_option maxRecDepth 100000 in
theorem b_X6_isPrime_8 : (fun (v0 : Int32) (M : Mem) (a2 : Int32) => run C_X6_isPrime 3 (34, [some (.int v0), some (.int a2)], [], M, 0)) = (fun (v0 : Int32) (M : Mem) (a2 : Int32) => some (.inr (.inl (some (.int (1 : Int32))), M, 0))) := by rfl
def d_X6_isPrime (v0 : Int32) : Option Int32 := (onIt (iter (g_X6_isPrime_1 v0) 20000 (2 : Int32)) (fun (a2 : Int32) => (if v0 ≤ (1 : Int32) then some (0 : Int32) else some (1 : Int32))) (fun r => some r))
set_option maxHeartbeats 2000000 in
theorem r_X6_isPrime (v0 : Int32) (M : Mem) : RG C_X6_isPrime (0, [some (.int v0), none], [], M, 0) (d_X6_isPrime v0) (fun v => .inr (.inl (some (.int v)), M)) := by
  unfold d_X6_isPrime
  refine RG.st 2 (congrFun (congrFun b_X6_isPrime_0 v0) M) ?_
  refine RG.loop (hd := (fun (a1 : Int32) => (2, [some (.int v0), some (.int a1)], [], M, 0))) (ex := (fun (a1 : Int32) => (29, [some (.int v0), some (.int a1)], [], M, 0))) (rt := (fun (v : Int32) => (.inl (some (.int v)), M))) (l_X6_isPrime_1 v0 M) (fun a2 => ?_) (fun r v h => by cases h; rfl)
  show RG C_X6_isPrime (29, [some (.int v0), some (.int a2)], [], M, 0) _ _
  refine RG.st 3 (congrFun (congrFun (congrFun b_X6_isPrime_6 v0) M) a2) ?_
  refine RG.ite (fun h4 => RG.brT (q := 38) h4 rfl ?_) (fun h4 => RG.brF (q := 34) h4 rfl ?_)
  · exact RG.fin rfl (Rend.run 2 (congrFun (congrFun (congrFun b_X6_isPrime_7 v0) M) a2))
  · exact RG.fin rfl (Rend.run 3 (congrFun (congrFun (congrFun b_X6_isPrime_8 v0) M) a2))
def fn_X6_isPrime : Fn := fun av M => match av with
  | [.int v0] => (d_X6_isPrime v0).bind fun v => some (.inl (some (.int v)), M)
  | _ => none
theorem cfg_X6_isPrime : CfgOK RX6 cX6_isPrime (C_X6_isPrime) 2 := ⟨tk_X6_isPrime, csF_nd, flk_X6, (List.forall_mem_cons.mpr ⟨Or.inr ⟨yX7_rest, cX7_rest, 3, (some .int), none, 1, ok_X7_rest, by decide, by decide, w_code_Sumsetry_rest__II_I, w_initialized_Sumsetry, ⟨by decide, by decide⟩, Or.inr (Or.inl ⟨rfl, rfl, show (parseMethodDescriptor yX7_rest.desc).map (fun d => d.parameters.length) = some 2 from by decide +kernel, ⟨"Sumsetry", by decide +kernel⟩, w_static_Sumsetry_rest__II_I⟩)⟩, fun _ h => absurd h List.not_mem_nil⟩), ink_X6, lgk_X6, fun e h => absurd h List.not_mem_nil, (fun h hh => absurd hh List.not_mem_nil)⟩
theorem ok_X6_isPrime : OkM csF yX6_isPrime (Cond.code yX6_isPrime cX6_isPrime 2 (some .boolean)) 2 0 fn_X6_isPrime :=
  OkM_of (own := RX6) (C := C_X6_isPrime) (by decide +kernel) rfl (cfg_X6_isPrime) rfl rfl rfl rfl (by
    intro av M o M' h
    unfold fn_X6_isPrime at h
    split at h
    · rename_i v0
      obtain ⟨w, hw, h⟩ := bind_cs h
      cases h
      exact ⟨rfl, Nat.le_of_ble_eq_true rfl, (r_X6_isPrime v0 M) w hw⟩
    · cases h)
def t_X6_isRoot : List (Nat × Instr × Nat) := [(0, .iconst 1, 1), (1, .istore_n 3, 1), (2, .iconst 1, 1), (3, .istore 4, 2), (5, .iload 4, 2), (7, .iload_n 2, 1), (8, .if_icmp .gt 34, 3), (11, .iload_n 3, 1), (12, .iload_n 1, 1), (13, .imul, 1), (14, .iload_n 0, 1), (15, .invokestatic 15, 3), (18, .istore_n 3, 1), (19, .iload_n 3, 1), (20, .iconst 1, 1), (21, .if_icmp .ne 15, 3), (24, .iload 4, 2), (26, .iload_n 2, 1), (27, .if_icmp .ne 7, 3), (30, .iconst 1, 1), (31, .goto 4, 3), (34, .iconst 0, 1), (35, .ireturn, 1), (36, .iinc 4 1, 3), (39, .goto (-34), 3), (42, .iconst 0, 1), (43, .ireturn, 1)]
theorem tk_X6_isRoot : ∀ x ∈ t_X6_isRoot, decode cX6_isRoot x.1 = .ok x.2 := by decide +kernel
def C_X6_isRoot : Cfg := (t_X6_isRoot, csF, fl_X6, [(15, 1, 5, 2, 0, fn_X7_rest)], in_X6, lg_X6, [], [], none, (some .boolean), 0)
set_option maxRecDepth 100000 in
theorem b_X6_isRoot_0 : (fun (v0 : Int32) (v1 : Int32) (v2 : Int32) (M : Mem) => run C_X6_isRoot 4 (0, [some (.int v0), some (.int v1), some (.int v2), none, none], [], M, 0)) = (fun (v0 : Int32) (v1 : Int32) (v2 : Int32) (M : Mem) => some (.inl (5, [some (.int v0), some (.int v1), some (.int v2), some (.int (1 : Int32)), some (.int (1 : Int32))], [], M, 0))) := by rfl
set_option maxRecDepth 100000 in
theorem b_X6_isRoot_1 : (fun (v0 : Int32) (v1 : Int32) (v2 : Int32) (M : Mem) (a1 : (Int32 × Int32)) => run C_X6_isRoot 3 (5, [some (.int v0), some (.int v1), some (.int v2), some (.int a1.1), some (.int a1.2)], [], M, 0)) = (fun (v0 : Int32) (v1 : Int32) (v2 : Int32) (M : Mem) (a1 : (Int32 × Int32)) => some (.inl ((br (!decide (a1.2 ≤ v2)) 8 3 (34)), [some (.int v0), some (.int v1), some (.int v2), some (.int a1.1), some (.int a1.2)], [], M, 0))) := by rfl
set_option maxRecDepth 100000 in
theorem b_X6_isRoot_2 : (fun (v0 : Int32) (v1 : Int32) (v2 : Int32) (M : Mem) (a1 : (Int32 × Int32)) => run C_X6_isRoot 9 (11, [some (.int v0), some (.int v1), some (.int v2), some (.int a1.1), some (.int a1.2)], [], M, 0)) = (fun (v0 : Int32) (v1 : Int32) (v2 : Int32) (M : Mem) (a1 : (Int32 × Int32)) => some (.inl ((br (!decide ((d_X7_rest (a1.1 * v1) v0) = (1 : Int32))) 21 3 (15)), [some (.int v0), some (.int v1), some (.int v2), some (.int (d_X7_rest (a1.1 * v1) v0)), some (.int a1.2)], [], M, 0))) := by rfl
set_option maxRecDepth 100000 in
theorem b_X6_isRoot_3 : (fun (v0 : Int32) (v1 : Int32) (v2 : Int32) (M : Mem) (a1 : (Int32 × Int32)) => run C_X6_isRoot 3 (24, [some (.int v0), some (.int v1), some (.int v2), some (.int (d_X7_rest (a1.1 * v1) v0)), some (.int a1.2)], [], M, 0)) = (fun (v0 : Int32) (v1 : Int32) (v2 : Int32) (M : Mem) (a1 : (Int32 × Int32)) => some (.inl ((br (!decide (a1.2 = v2)) 27 3 (7)), [some (.int v0), some (.int v1), some (.int v2), some (.int (d_X7_rest (a1.1 * v1) v0)), some (.int a1.2)], [], M, 0))) := by rfl
set_option maxRecDepth 100000 in
theorem b_X6_isRoot_4 : (fun (v0 : Int32) (v1 : Int32) (v2 : Int32) (M : Mem) (a1 : (Int32 × Int32)) => run C_X6_isRoot 3 (30, [some (.int v0), some (.int v1), some (.int v2), some (.int (d_X7_rest (a1.1 * v1) v0)), some (.int a1.2)], [], M, 0)) = (fun (v0 : Int32) (v1 : Int32) (v2 : Int32) (M : Mem) (a1 : (Int32 × Int32)) => some (.inr (.inl (some (.int (1 : Int32))), M, 0))) := by rfl
set_option maxRecDepth 100000 in
theorem b_X6_isRoot_5 : (fun (v0 : Int32) (v1 : Int32) (v2 : Int32) (M : Mem) (a1 : (Int32 × Int32)) => run C_X6_isRoot 2 (34, [some (.int v0), some (.int v1), some (.int v2), some (.int (d_X7_rest (a1.1 * v1) v0)), some (.int a1.2)], [], M, 0)) = (fun (v0 : Int32) (v1 : Int32) (v2 : Int32) (M : Mem) (a1 : (Int32 × Int32)) => some (.inr (.inl (some (.int (0 : Int32))), M, 0))) := by rfl
set_option maxRecDepth 100000 in
theorem b_X6_isRoot_6 : (fun (v0 : Int32) (v1 : Int32) (v2 : Int32) (M : Mem) (a1 : (Int32 × Int32)) => run C_X6_isRoot 2 (36, [some (.int v0), some (.int v1), some (.int v2), some (.int (d_X7_rest (a1.1 * v1) v0)), some (.int a1.2)], [], M, 0)) = (fun (v0 : Int32) (v1 : Int32) (v2 : Int32) (M : Mem) (a1 : (Int32 × Int32)) => some (.inl (5, [some (.int v0), some (.int v1), some (.int v2), some (.int (d_X7_rest (a1.1 * v1) v0)), some (.int (a1.2 + (1 : Int32)))], [], M, 0))) := by rfl
def g_X6_isRoot_1 (v0 : Int32) (v1 : Int32) (v2 : Int32) : Int32 × Int32 → Option ((Int32 × Int32) ⊕ ((Int32 × Int32) ⊕ Int32)) := fun (a1 : Int32 × Int32) => (if a1.2 ≤ v2 then (if (d_X7_rest (a1.1 * v1) v0) = (1 : Int32) then (if a1.2 = v2 then some (.inr (.inr (1 : Int32))) else some (.inr (.inr (0 : Int32)))) else some (.inl ((d_X7_rest (a1.1 * v1) v0), (a1.2 + (1 : Int32))))) else some (.inr (.inl (a1.1, a1.2))))
set_option maxHeartbeats 2000000 in
theorem l_X6_isRoot_1 (v0 : Int32) (v1 : Int32) (v2 : Int32) (M : Mem) : ∀ a1 : Int32 × Int32, RG C_X6_isRoot ((fun (a1 : Int32 × Int32) => (5, [some (.int v0), some (.int v1), some (.int v2), some (.int a1.1), some (.int a1.2)], [], M, 0)) a1) (g_X6_isRoot_1 v0 v1 v2 a1) (lpP (fun (a1 : Int32 × Int32) => (5, [some (.int v0), some (.int v1), some (.int v2), some (.int a1.1), some (.int a1.2)], [], M, 0)) (fun (a1 : Int32 × Int32) => (42, [some (.int v0), some (.int v1), some (.int v2), some (.int a1.1), some (.int a1.2)], [], M, 0)) (fun (v : Int32) => (.inl (some (.int v)), M))) := by
  intro a1
  unfold g_X6_isRoot_1
  show RG C_X6_isRoot (5, [some (.int v0), some (.int v1), some (.int v2), some (.int a1.1), some (.int a1.2)], [], M, 0) _ _
  refine RG.st 3 (congrFun (congrFun (congrFun (congrFun (congrFun b_X6_isRoot_1 v0) v1) v2) M) a1) ?_
  refine RG.ite (fun h1 => RG.brNF (q := 11) h1 rfl ?_) (fun h1 => RG.brNT (q := 42) h1 rfl ?_)
  · refine RG.st 9 (congrFun (congrFun (congrFun (congrFun (congrFun b_X6_isRoot_2 v0) v1) v2) M) a1) ?_
    refine RG.ite (fun h2 => RG.brNF (q := 24) h2 rfl ?_) (fun h2 => RG.brNT (q := 36) h2 rfl ?_)
    · refine RG.st 3 (congrFun (congrFun (congrFun (congrFun (congrFun b_X6_isRoot_3 v0) v1) v2) M) a1) ?_
      refine RG.ite (fun h3 => RG.brNF (q := 30) h3 rfl ?_) (fun h3 => RG.brNT (q := 34) h3 rfl ?_)
      · exact RG.fin rfl (Rend.run 3 (congrFun (congrFun (congrFun (congrFun (congrFun b_X6_isRoot_4 v0) v1) v2) M) a1))
      · exact RG.fin rfl (Rend.run 2 (congrFun (congrFun (congrFun (congrFun (congrFun b_X6_isRoot_5 v0) v1) v2) M) a1))
    · refine RG.st 2 (congrFun (congrFun (congrFun (congrFun (congrFun b_X6_isRoot_6 v0) v1) v2) M) a1) ?_
      exact RG.to rfl (Rto.refl _)
  · exact RG.to rfl (Rto.refl _)
set_option maxRecDepth 100000 in
theorem b_X6_isRoot_7 : (fun (v0 : Int32) (v1 : Int32) (v2 : Int32) (M : Mem) (a2 : (Int32 × Int32)) => run C_X6_isRoot 2 (42, [some (.int v0), some (.int v1), some (.int v2), some (.int a2.1), some (.int a2.2)], [], M, 0)) = (fun (v0 : Int32) (v1 : Int32) (v2 : Int32) (M : Mem) (a2 : (Int32 × Int32)) => some (.inr (.inl (some (.int (0 : Int32))), M, 0))) := by rfl
def d_X6_isRoot (v0 : Int32) (v1 : Int32) (v2 : Int32) : Option Int32 := (onIt (iter (g_X6_isRoot_1 v0 v1 v2) 20000 ((1 : Int32), (1 : Int32))) (fun (a2 : Int32 × Int32) => some (0 : Int32)) (fun r => some r))
set_option maxHeartbeats 2000000 in
theorem r_X6_isRoot (v0 : Int32) (v1 : Int32) (v2 : Int32) (M : Mem) : RG C_X6_isRoot (0, [some (.int v0), some (.int v1), some (.int v2), none, none], [], M, 0) (d_X6_isRoot v0 v1 v2) (fun v => .inr (.inl (some (.int v)), M)) := by
  unfold d_X6_isRoot
  refine RG.st 4 (congrFun (congrFun (congrFun (congrFun b_X6_isRoot_0 v0) v1) v2) M) ?_
  refine RG.loop (hd := (fun (a1 : Int32 × Int32) => (5, [some (.int v0), some (.int v1), some (.int v2), some (.int a1.1), some (.int a1.2)], [], M, 0))) (ex := (fun (a1 : Int32 × Int32) => (42, [some (.int v0), some (.int v1), some (.int v2), some (.int a1.1), some (.int a1.2)], [], M, 0))) (rt := (fun (v : Int32) => (.inl (some (.int v)), M))) (l_X6_isRoot_1 v0 v1 v2 M) (fun a2 => ?_) (fun r v h => by cases h; rfl)
  show RG C_X6_isRoot (42, [some (.int v0), some (.int v1), some (.int v2), some (.int a2.1), some (.int a2.2)], [], M, 0) _ _
  exact RG.fin rfl (Rend.run 2 (congrFun (congrFun (congrFun (congrFun (congrFun b_X6_isRoot_7 v0) v1) v2) M) a2))
def fn_X6_isRoot : Fn := fun av M => match av with
  | [.int v0, .int v1, .int v2] => (d_X6_isRoot v0 v1 v2).bind fun v => some (.inl (some (.int v)), M)
  | _ => none
theorem cfg_X6_isRoot : CfgOK RX6 cX6_isRoot (C_X6_isRoot) 2 := ⟨tk_X6_isRoot, csF_nd, flk_X6, (List.forall_mem_cons.mpr ⟨Or.inr ⟨yX7_rest, cX7_rest, 3, (some .int), none, 1, ok_X7_rest, by decide, by decide, w_code_Sumsetry_rest__II_I, w_initialized_Sumsetry, ⟨by decide, by decide⟩, Or.inr (Or.inl ⟨rfl, rfl, show (parseMethodDescriptor yX7_rest.desc).map (fun d => d.parameters.length) = some 2 from by decide +kernel, ⟨"Sumsetry", by decide +kernel⟩, w_static_Sumsetry_rest__II_I⟩)⟩, fun _ h => absurd h List.not_mem_nil⟩), ink_X6, lgk_X6, fun e h => absurd h List.not_mem_nil, (fun h hh => absurd hh List.not_mem_nil)⟩
theorem ok_X6_isRoot : OkM csF yX6_isRoot (Cond.code yX6_isRoot cX6_isRoot 5 (some .boolean)) 2 0 fn_X6_isRoot :=
  OkM_of (own := RX6) (C := C_X6_isRoot) (by decide +kernel) rfl (cfg_X6_isRoot) rfl rfl rfl rfl (by
    intro av M o M' h
    unfold fn_X6_isRoot at h
    split at h
    · rename_i v0 v1 v2
      obtain ⟨w, hw, h⟩ := bind_cs h
      cases h
      exact ⟨rfl, Nat.le_of_ble_eq_true rfl, (r_X6_isRoot v0 v1 v2 M) w hw⟩
    · cases h)
def t_X6_begin : List (Nat × Instr × Nat) := [(0, .aload_n 0, 1), (1, .iload_n 1, 1), (2, .putfield 19, 3), (5, .aload_n 0, 1), (6, .iload_n 3, 1), (7, .putfield 23, 3), (10, .iconst 1, 1), (11, .istore 4, 2), (13, .iconst 0, 1), (14, .istore 5, 2), (16, .iload 5, 2), (18, .aload_n 0, 1), (19, .getfield 23, 3), (22, .if_icmp .ge 33, 3), (25, .aload_n 0, 1), (26, .getfield 9, 3), (29, .iload 5, 2), (31, .iload 4, 2), (33, .invokestatic 26, 3), (36, .iload 4, 2), (38, .iload_n 2, 1), (39, .imul, 1), (40, .aload_n 0, 1), (41, .getfield 19, 3), (44, .invokestatic 15, 3), (47, .istore 4, 2), (49, .iinc 5 1, 3), (52, .goto (-36), 3), (55, .return_, 1)]
theorem tk_X6_begin : ∀ x ∈ t_X6_begin, decode cX6_begin x.1 = .ok x.2 := by decide +kernel
def C_X6_begin : Cfg := (t_X6_begin, csF, fl_X6, [(15, 1, 5, 2, 0, fn_X7_rest), (26, 1, 5, 3, 0, fn_X7_lay)], in_X6, lg_X6, [], [], none, none, 0)
set_option maxRecDepth 100000 in
theorem b_X6_begin_0 : (fun (v1 : Int32) (v2 : Int32) (v3 : Int32) (M : Mem) => run C_X6_begin 10 (0, [some (.ref 17), some (.int v1), some (.int v2), some (.int v3), none, none], [], M, 0)) = (fun (v1 : Int32) (v2 : Int32) (v3 : Int32) (M : Mem) => some (.inl (16, [some (.ref 17), some (.int v1), some (.int v2), some (.int v3), some (.int (1 : Int32)), some (.int (0 : Int32))], [], (sI (sI M 17 0 v1) 17 1 v3), 0))) := by rfl
set_option maxRecDepth 100000 in
theorem b_X6_begin_1 : (fun (v1 : Int32) (v2 : Int32) (v3 : Int32) (a1 : (Int32 × Int32 × Mem)) => run C_X6_begin 4 (16, [some (.ref 17), some (.int v1), some (.int v2), some (.int v3), some (.int a1.1), some (.int a1.2.1)], [], a1.2.2, 0)) = (fun (v1 : Int32) (v2 : Int32) (v3 : Int32) (a1 : (Int32 × Int32 × Mem)) => some (.inl ((br (!decide (a1.2.1 < (a1.2.2.1 17 1))) 22 3 (33)), [some (.ref 17), some (.int v1), some (.int v2), some (.int v3), some (.int a1.1), some (.int a1.2.1)], [], a1.2.2, 0))) := by rfl
set_option maxRecDepth 100000 in
theorem b_X6_begin_2 : (fun (v1 : Int32) (v2 : Int32) (v3 : Int32) (a1 : (Int32 × Int32 × Mem)) => run C_X6_begin 14 (25, [some (.ref 17), some (.int v1), some (.int v2), some (.int v3), some (.int a1.1), some (.int a1.2.1)], [], a1.2.2, 0)) = (fun (v1 : Int32) (v2 : Int32) (v3 : Int32) (a1 : (Int32 × Int32 × Mem)) => some (.inl (16, [some (.ref 17), some (.int v1), some (.int v2), some (.int v3), some (.int (d_X7_rest (a1.1 * v2) (((d_X7_lay 18 36 a1.2.1 a1.1) a1.2.2).1 17 0))), some (.int (a1.2.1 + (1 : Int32)))], [], ((d_X7_lay 18 36 a1.2.1 a1.1) a1.2.2), 0))) := by rfl
def g_X6_begin_1 (v2 : Int32) : Int32 × Int32 × Mem → Option ((Int32 × Int32 × Mem) ⊕ ((Int32 × Int32 × Mem) ⊕ (Res × Mem))) := fun (a1 : Int32 × Int32 × Mem) => (if a1.2.1 < (a1.2.2.1 17 1) then some (.inl ((d_X7_rest (a1.1 * v2) (((d_X7_lay 18 36 a1.2.1 a1.1) a1.2.2).1 17 0)), (a1.2.1 + (1 : Int32)), ((d_X7_lay 18 36 a1.2.1 a1.1) a1.2.2))) else some (.inr (.inl (a1.1, a1.2.1, a1.2.2))))
set_option maxHeartbeats 2000000 in
theorem l_X6_begin_1 (v1 : Int32) (v2 : Int32) (v3 : Int32) (M : Mem) : ∀ a1 : Int32 × Int32 × Mem, RG C_X6_begin ((fun (a1 : Int32 × Int32 × Mem) => (16, [some (.ref 17), some (.int v1), some (.int v2), some (.int v3), some (.int a1.1), some (.int a1.2.1)], [], a1.2.2, 0)) a1) (g_X6_begin_1 v2 a1) (lpP (fun (a1 : Int32 × Int32 × Mem) => (16, [some (.ref 17), some (.int v1), some (.int v2), some (.int v3), some (.int a1.1), some (.int a1.2.1)], [], a1.2.2, 0)) (fun (a1 : Int32 × Int32 × Mem) => (55, [some (.ref 17), some (.int v1), some (.int v2), some (.int v3), some (.int a1.1), some (.int a1.2.1)], [], a1.2.2, 0)) id) := by
  intro a1
  unfold g_X6_begin_1
  show RG C_X6_begin (16, [some (.ref 17), some (.int v1), some (.int v2), some (.int v3), some (.int a1.1), some (.int a1.2.1)], [], a1.2.2, 0) _ _
  refine RG.st 4 (congrFun (congrFun (congrFun (congrFun b_X6_begin_1 v1) v2) v3) a1) ?_
  refine RG.ite (fun h1 => RG.brNF (q := 25) h1 rfl ?_) (fun h1 => RG.brNT (q := 55) h1 rfl ?_)
  · refine RG.st 14 (congrFun (congrFun (congrFun (congrFun b_X6_begin_2 v1) v2) v3) a1) ?_
    exact RG.to rfl (Rto.refl _)
  · exact RG.to rfl (Rto.refl _)
set_option maxRecDepth 100000 in
theorem b_X6_begin_3 : (fun (v1 : Int32) (v2 : Int32) (v3 : Int32) (a2 : (Int32 × Int32 × Mem)) => run C_X6_begin 1 (55, [some (.ref 17), some (.int v1), some (.int v2), some (.int v3), some (.int a2.1), some (.int a2.2.1)], [], a2.2.2, 0)) = (fun (v1 : Int32) (v2 : Int32) (v3 : Int32) (a2 : (Int32 × Int32 × Mem)) => some (.inr (.inl none, a2.2.2, 0))) := by rfl
def d_X6_begin (v1 : Int32) (v2 : Int32) (v3 : Int32) (M : Mem) : Option (Res × Mem) := (onIt (iter (g_X6_begin_1 v2) 20000 ((1 : Int32), (0 : Int32), (sI (sI M 17 0 v1) 17 1 v3))) (fun (a2 : Int32 × Int32 × Mem) => some (.inl none, a2.2.2)) (fun r => some r))
set_option maxHeartbeats 2000000 in
theorem r_X6_begin (v1 : Int32) (v2 : Int32) (v3 : Int32) (M : Mem) : RG C_X6_begin (0, [some (.ref 17), some (.int v1), some (.int v2), some (.int v3), none, none], [], M, 0) (d_X6_begin v1 v2 v3 M) (fun r => .inr r) := by
  unfold d_X6_begin
  refine RG.st 10 (congrFun (congrFun (congrFun (congrFun b_X6_begin_0 v1) v2) v3) M) ?_
  refine RG.loop (hd := (fun (a1 : Int32 × Int32 × Mem) => (16, [some (.ref 17), some (.int v1), some (.int v2), some (.int v3), some (.int a1.1), some (.int a1.2.1)], [], a1.2.2, 0))) (ex := (fun (a1 : Int32 × Int32 × Mem) => (55, [some (.ref 17), some (.int v1), some (.int v2), some (.int v3), some (.int a1.1), some (.int a1.2.1)], [], a1.2.2, 0))) (rt := id) (l_X6_begin_1 v1 v2 v3 M) (fun a2 => ?_) (fun r v h => by cases h; rfl)
  show RG C_X6_begin (55, [some (.ref 17), some (.int v1), some (.int v2), some (.int v3), some (.int a2.1), some (.int a2.2.1)], [], a2.2.2, 0) _ _
  exact RG.fin rfl (Rend.run 1 (congrFun (congrFun (congrFun (congrFun b_X6_begin_3 v1) v2) v3) a2))
def fn_X6_begin : Fn := fun av M => match av with
  | [.ref r0, .int v1, .int v2, .int v3] => bif Nat.beq r0 17 then (d_X6_begin v1 v2 v3 M) else (none)
  | _ => none
theorem cfg_X6_begin : CfgOK RX6 cX6_begin (C_X6_begin) 2 := ⟨tk_X6_begin, csF_nd, flk_X6, (List.forall_mem_cons.mpr ⟨Or.inr ⟨yX7_rest, cX7_rest, 3, (some .int), none, 1, ok_X7_rest, by decide, by decide, w_code_Sumsetry_rest__II_I, w_initialized_Sumsetry, ⟨by decide, by decide⟩, Or.inr (Or.inl ⟨rfl, rfl, show (parseMethodDescriptor yX7_rest.desc).map (fun d => d.parameters.length) = some 2 from by decide +kernel, ⟨"Sumsetry", by decide +kernel⟩, w_static_Sumsetry_rest__II_I⟩)⟩,
    List.forall_mem_cons.mpr ⟨Or.inr ⟨yX7_lay, cX7_lay, 3, none, none, 1, ok_X7_lay, by decide, by decide, w_code_Sumsetry_lay___III_V, w_initialized_Sumsetry, ⟨by decide, by decide⟩, Or.inr (Or.inl ⟨rfl, rfl, show (parseMethodDescriptor yX7_lay.desc).map (fun d => d.parameters.length) = some 3 from by decide +kernel, ⟨"Sumsetry", by decide +kernel⟩, w_static_Sumsetry_lay___III_V⟩)⟩, fun _ h => absurd h List.not_mem_nil⟩⟩), ink_X6, lgk_X6, fun e h => absurd h List.not_mem_nil, (fun h hh => absurd hh List.not_mem_nil)⟩
theorem ok_X6_begin : OkM csF yX6_begin (Cond.code yX6_begin cX6_begin 6 none) 2 0 fn_X6_begin :=
  OkM_of (own := RX6) (C := C_X6_begin) (by decide +kernel) rfl (cfg_X6_begin) rfl rfl rfl rfl (by
    intro av M o M' h
    unfold fn_X6_begin at h
    split at h
    · rename_i r0 v1 v2 v3
      rcases bif_cs h with ⟨hb, h⟩ | ⟨-, h⟩
      · skip
        have hr0 := hb
        obtain rfl := Nat.eq_of_beq_eq_true hr0
        exact ⟨rfl, Nat.le_of_ble_eq_true rfl, (r_X6_begin v1 v2 v3 M) (o, M') h⟩
      · cases h
    · cases h)
def t_X6_forget : List (Nat × Instr × Nat) := [(0, .aload_n 0, 1), (1, .iconst 0, 1), (2, .putfield 19, 3), (5, .return_, 1)]
theorem tk_X6_forget : ∀ x ∈ t_X6_forget, decode cX6_forget x.1 = .ok x.2 := by decide +kernel
def C_X6_forget : Cfg := (t_X6_forget, csF, fl_X6, [], in_X6, lg_X6, [], [], none, none, 0)
set_option maxRecDepth 100000 in
theorem b_X6_forget_0 : (fun (M : Mem) => run C_X6_forget 4 (0, [some (.ref 17)], [], M, 0)) = (fun (M : Mem) => some (.inr (.inl none, (sI M 17 0 (0 : Int32)), 0))) := by rfl
def d_X6_forget (M : Mem) : Mem := (sI M 17 0 (0 : Int32))
set_option maxHeartbeats 2000000 in
theorem r_X6_forget (M : Mem) : RG C_X6_forget (0, [some (.ref 17)], [], M, 0) (some (d_X6_forget M)) (fun m => .inr (.inl none, m)) := by
  unfold d_X6_forget
  exact RG.fin rfl (Rend.run 4 (congrFun b_X6_forget_0 M))
def fn_X6_forget : Fn := fun av M => match av with
  | [.ref r0] => bif Nat.beq r0 17 then some (.inl none, (d_X6_forget M)) else (none)
  | _ => none
theorem cfg_X6_forget : CfgOK RX6 cX6_forget (C_X6_forget) 1 := ⟨tk_X6_forget, csF_nd, flk_X6, (fun e h => absurd h List.not_mem_nil), ink_X6, lgk_X6, fun e h => absurd h List.not_mem_nil, (fun h hh => absurd hh List.not_mem_nil)⟩
theorem ok_X6_forget : OkM csF yX6_forget (Cond.code yX6_forget cX6_forget 1 none) 1 0 fn_X6_forget :=
  OkM_of (own := RX6) (C := C_X6_forget) (by decide +kernel) rfl (cfg_X6_forget) rfl rfl rfl rfl (by
    intro av M o M' h
    unfold fn_X6_forget at h
    split at h
    · rename_i r0
      rcases bif_cs h with ⟨hb, h⟩ | ⟨-, h⟩
      · skip
        have hr0 := hb
        obtain rfl := Nat.eq_of_beq_eq_true hr0
        cases h
        exact ⟨rfl, Nat.le_of_ble_eq_true rfl, (r_X6_forget M) _ rfl⟩
      · cases h
    · cases h)
def t_X6_powerOf : List (Nat × Instr × Nat) := [(0, .aload_n 0, 1), (1, .getfield 9, 3), (4, .iload_n 1, 1), (5, .aload_n 0, 1), (6, .getfield 23, 3), (9, .invokestatic 15, 3), (12, .invokestatic 45, 3), (15, .ireturn, 1)]
theorem tk_X6_powerOf : ∀ x ∈ t_X6_powerOf, decode cX6_powerOf x.1 = .ok x.2 := by decide +kernel
def C_X6_powerOf : Cfg := (t_X6_powerOf, csF, fl_X6, [(15, 1, 5, 2, 0, fn_X7_rest), (45, 1, 5, 2, 0, fn_X7_at)], in_X6, lg_X6, [], [], none, (some .int), 0)
set_option maxRecDepth 100000 in
theorem b_X6_powerOf_0 : (fun (v1 : Int32) (M : Mem) => run C_X6_powerOf 8 (0, [some (.ref 17), some (.int v1)], [], M, 0)) = (fun (v1 : Int32) (M : Mem) => some (.inr (.inl (some (.int (d_X7_at 18 36 (d_X7_rest v1 (M.1 17 1)) M))), M, 0))) := by rfl
def d_X6_powerOf (v1 : Int32) (M : Mem) : Int32 := (d_X7_at 18 36 (d_X7_rest v1 (M.1 17 1)) M)
set_option maxHeartbeats 2000000 in
theorem r_X6_powerOf (v1 : Int32) (M : Mem) : RG C_X6_powerOf (0, [some (.ref 17), some (.int v1)], [], M, 0) (some (d_X6_powerOf v1 M)) (fun v => .inr (.inl (some (.int v)), M)) := by
  unfold d_X6_powerOf
  exact RG.fin rfl (Rend.run 8 (congrFun (congrFun b_X6_powerOf_0 v1) M))
def fn_X6_powerOf : Fn := fun av M => match av with
  | [.ref r0, .int v1] => bif Nat.beq r0 17 then some (.inl (some (.int (d_X6_powerOf v1 M))), M) else (none)
  | _ => none
theorem cfg_X6_powerOf : CfgOK RX6 cX6_powerOf (C_X6_powerOf) 2 := ⟨tk_X6_powerOf, csF_nd, flk_X6, (List.forall_mem_cons.mpr ⟨Or.inr ⟨yX7_rest, cX7_rest, 3, (some .int), none, 1, ok_X7_rest, by decide, by decide, w_code_Sumsetry_rest__II_I, w_initialized_Sumsetry, ⟨by decide, by decide⟩, Or.inr (Or.inl ⟨rfl, rfl, show (parseMethodDescriptor yX7_rest.desc).map (fun d => d.parameters.length) = some 2 from by decide +kernel, ⟨"Sumsetry", by decide +kernel⟩, w_static_Sumsetry_rest__II_I⟩)⟩,
    List.forall_mem_cons.mpr ⟨Or.inr ⟨yX7_at, cX7_at, 2, (some .int), none, 1, ok_X7_at, by decide, by decide, w_code_Sumsetry_at___II_I, w_initialized_Sumsetry, ⟨by decide, by decide⟩, Or.inr (Or.inl ⟨rfl, rfl, show (parseMethodDescriptor yX7_at.desc).map (fun d => d.parameters.length) = some 2 from by decide +kernel, ⟨"Sumsetry", by decide +kernel⟩, w_static_Sumsetry_at___II_I⟩)⟩, fun _ h => absurd h List.not_mem_nil⟩⟩), ink_X6, lgk_X6, fun e h => absurd h List.not_mem_nil, (fun h hh => absurd hh List.not_mem_nil)⟩
theorem ok_X6_powerOf : OkM csF yX6_powerOf (Cond.code yX6_powerOf cX6_powerOf 2 (some .int)) 2 0 fn_X6_powerOf :=
  OkM_of (own := RX6) (C := C_X6_powerOf) (by decide +kernel) rfl (cfg_X6_powerOf) rfl rfl rfl rfl (by
    intro av M o M' h
    unfold fn_X6_powerOf at h
    split at h
    · rename_i r0 v1
      rcases bif_cs h with ⟨hb, h⟩ | ⟨-, h⟩
      · skip
        have hr0 := hb
        obtain rfl := Nat.eq_of_beq_eq_true hr0
        cases h
        exact ⟨rfl, Nat.le_of_ble_eq_true rfl, (r_X6_powerOf v1 M) _ rfl⟩
      · cases h
    · cases h)
