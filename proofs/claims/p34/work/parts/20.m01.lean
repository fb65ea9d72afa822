/-! methods: J13_numberOfTrailingZeros_95d88, X7_lowest, X7_rest, X7_bit, X1_shifted, X7_withoutLowest, X4_isFree, X4_isSidon, X7_at -/
def t_J13_numberOfTrailingZeros_95d88 : List (Nat × Instr × Nat) := [(0, .lload_n 0, 1), (1, .l2i, 1), (2, .istore_n 2, 1), (3, .iload_n 2, 1), (4, .ifCond .ne 17, 3), (7, .bipush 32, 2), (9, .lload_n 0, 1), (10, .bipush 32, 2), (12, .lushr, 1), (13, .l2i, 1), (14, .invokestatic 311, 3), (17, .iadd, 1), (18, .goto 7, 3), (21, .iload_n 2, 1), (22, .invokestatic 311, 3), (25, .ireturn, 1)]
theorem tk_J13_numberOfTrailingZeros_95d88 : ∀ x ∈ t_J13_numberOfTrailingZeros_95d88, decode cJ13_numberOfTrailingZeros_95d88 x.1 = .ok x.2 := by decide +kernel
def C_J13_numberOfTrailingZeros_95d88 : Cfg := (t_J13_numberOfTrailingZeros_95d88, csF, fl_J13, [(311, 0, 0, 1, 0, fn_J6_numberOfTrailingZeros_0f7a4)], in_J13, lg_J13, [], [], none, (some .int), 0)
set_option maxRecDepth 100000 in
theorem b_J13_numberOfTrailingZeros_95d88_0 : (fun (v0 : Int64) (M : Mem) => run C_J13_numberOfTrailingZeros_95d88 5 (0, [some (.long v0), none, none], [], M, 0)) = (fun (v0 : Int64) (M : Mem) => some (.inl ((br (!decide (v0.toInt32 = 0)) 4 3 (17)), [some (.long v0), none, some (.int v0.toInt32)], [], M, 0))) := by rfl
set_option maxRecDepth 100000 in
theorem b_J13_numberOfTrailingZeros_95d88_1 : (fun (v0 : Int64) (M : Mem) => run C_J13_numberOfTrailingZeros_95d88 9 (7, [some (.long v0), none, some (.int v0.toInt32)], [], M, 0)) = (fun (v0 : Int64) (M : Mem) => some (.inr (.inl (some (.int ((32 : Int32) + (d_J6_numberOfTrailingZeros_0f7a4 ((jushr v0 (32 : Int32)).toInt32))))), M, 0))) := by rfl
set_option maxRecDepth 100000 in
theorem b_J13_numberOfTrailingZeros_95d88_2 : (fun (v0 : Int64) (M : Mem) => run C_J13_numberOfTrailingZeros_95d88 3 (21, [some (.long v0), none, some (.int v0.toInt32)], [], M, 0)) = (fun (v0 : Int64) (M : Mem) => some (.inr (.inl (some (.int (d_J6_numberOfTrailingZeros_0f7a4 v0.toInt32))), M, 0))) := by rfl
def d_J13_numberOfTrailingZeros_95d88 (v0 : Int64) : Int32 := (if v0.toInt32 = 0 then ((32 : Int32) + (d_J6_numberOfTrailingZeros_0f7a4 ((jushr v0 (32 : Int32)).toInt32))) else (d_J6_numberOfTrailingZeros_0f7a4 v0.toInt32))
set_option maxHeartbeats 2000000 in
theorem r_J13_numberOfTrailingZeros_95d88 (v0 : Int64) (M : Mem) : RG C_J13_numberOfTrailingZeros_95d88 (0, [some (.long v0), none, none], [], M, 0) (some (d_J13_numberOfTrailingZeros_95d88 v0)) (fun v => .inr (.inl (some (.int v)), M)) := by
  unfold d_J13_numberOfTrailingZeros_95d88
  refine RG.st 5 (congrFun (congrFun b_J13_numberOfTrailingZeros_95d88_0 v0) M) ?_
  refine RG.ites (fun h1 => RG.brNF (q := 7) h1 rfl ?_) (fun h1 => RG.brNT (q := 21) h1 rfl ?_)
  · exact RG.fin rfl (Rend.run 9 (congrFun (congrFun b_J13_numberOfTrailingZeros_95d88_1 v0) M))
  · exact RG.fin rfl (Rend.run 3 (congrFun (congrFun b_J13_numberOfTrailingZeros_95d88_2 v0) M))
def fn_J13_numberOfTrailingZeros_95d88 : Fn := fun av M => match av with
  | [.long v0] => some (.inl (some (.int (d_J13_numberOfTrailingZeros_95d88 v0))), M)
  | _ => none
theorem cfg_J13_numberOfTrailingZeros_95d88 : CfgOK RJ13 cJ13_numberOfTrailingZeros_95d88 (C_J13_numberOfTrailingZeros_95d88) 2 := ⟨tk_J13_numberOfTrailingZeros_95d88, csF_nd, flk_J13, (List.forall_mem_cons.mpr ⟨Or.inr ⟨yJ6_numberOfTrailingZeros_0f7a4, cJ6_numberOfTrailingZeros_0f7a4, 2, (some .int), none, 1, ok_J6_numberOfTrailingZeros_0f7a4, by decide, by decide, w_code_java_lang_Integer_numberOfTrailingZeros__I_I, w_initialized_java_lang_Integer, ⟨by decide, by decide⟩, Or.inl ⟨rfl, show (parseMethodDescriptor yJ6_numberOfTrailingZeros_0f7a4.desc).map (fun d => d.parameters.length) = some 1 from by decide +kernel, w_methodLink_java_lang_Long_311, w_static_java_lang_Integer_numberOfTrailingZeros__I_I⟩⟩, fun _ h => absurd h List.not_mem_nil⟩), ink_J13, lgk_J13, fun e h => absurd h List.not_mem_nil, (fun h hh => absurd hh List.not_mem_nil)⟩
theorem ok_J13_numberOfTrailingZeros_95d88 : OkM csF yJ13_numberOfTrailingZeros_95d88 (Cond.code yJ13_numberOfTrailingZeros_95d88 cJ13_numberOfTrailingZeros_95d88 3 (some .int)) 2 0 fn_J13_numberOfTrailingZeros_95d88 :=
  OkM_of (own := RJ13) (C := C_J13_numberOfTrailingZeros_95d88) (by decide +kernel) rfl (cfg_J13_numberOfTrailingZeros_95d88) rfl rfl rfl rfl (by
    intro av M o M' h
    unfold fn_J13_numberOfTrailingZeros_95d88 at h
    split at h
    · rename_i v0
      cases h
      exact ⟨rfl, Nat.le_of_ble_eq_true rfl, (r_J13_numberOfTrailingZeros_95d88 v0 M) _ rfl⟩
    · cases h)
def fl_X7 : List (Nat × Nat × Nat) := [(10, 0, 0), (16, 0, 1), (20, 0, 2), (27, 0, 3), (34, 0, 4), (41, 0, 5), (48, 0, 6), (73, 2, 2), (172, 4, 9), (207, 14, 2), (227, 2, 1), (235, 2, 0), (251, 17, 0)]
theorem flk_X7 : ∀ e ∈ fl_X7, fldb RX7 e = true := by decide +kernel
def in_X7 : List (Nat × Int32) := []
theorem ink_X7 : ∀ e ∈ in_X7, Cond.constant RX7 e.1 e.2 ∈ TB := by decide +kernel
def lg_X7 : List (Nat × Int64) := [(159, -1)]
theorem lgk_X7 : ∀ e ∈ lg_X7, Cond.constantLong RX7 e.1 e.2 ∈ TB := by decide +kernel
def t_X7_lowest : List (Nat × Instr × Nat) := [(0, .lload_n 0, 1), (1, .invokestatic 278, 3), (4, .ireturn, 1)]
theorem tk_X7_lowest : ∀ x ∈ t_X7_lowest, decode cX7_lowest x.1 = .ok x.2 := by decide +kernel
def C_X7_lowest : Cfg := (t_X7_lowest, csF, fl_X7, [(278, 0, 0, 1, 0, fn_J13_numberOfTrailingZeros_95d88)], in_X7, lg_X7, [], [], none, (some .int), 0)
set_option maxRecDepth 100000 in
theorem b_X7_lowest_0 : (fun (v0 : Int64) (M : Mem) => run C_X7_lowest 3 (0, [some (.long v0), none], [], M, 0)) = (fun (v0 : Int64) (M : Mem) => some (.inr (.inl (some (.int (d_J13_numberOfTrailingZeros_95d88 v0))), M, 0))) := by rfl
def d_X7_lowest (v0 : Int64) : Int32 := (d_J13_numberOfTrailingZeros_95d88 v0)
set_option maxHeartbeats 2000000 in
theorem r_X7_lowest (v0 : Int64) (M : Mem) : RG C_X7_lowest (0, [some (.long v0), none], [], M, 0) (some (d_X7_lowest v0)) (fun v => .inr (.inl (some (.int v)), M)) := by
  unfold d_X7_lowest
  exact RG.fin rfl (Rend.run 3 (congrFun (congrFun b_X7_lowest_0 v0) M))
def fn_X7_lowest : Fn := fun av M => match av with
  | [.long v0] => some (.inl (some (.int (d_X7_lowest v0))), M)
  | _ => none
theorem cfg_X7_lowest : CfgOK RX7 cX7_lowest (C_X7_lowest) 3 := ⟨tk_X7_lowest, csF_nd, flk_X7, (List.forall_mem_cons.mpr ⟨Or.inr ⟨yJ13_numberOfTrailingZeros_95d88, cJ13_numberOfTrailingZeros_95d88, 3, (some .int), none, 2, ok_J13_numberOfTrailingZeros_95d88, by decide, by decide, w_code_java_lang_Long_numberOfTrailingZeros__J_I, w_initialized_java_lang_Long, ⟨by decide, by decide⟩, Or.inl ⟨rfl, show (parseMethodDescriptor yJ13_numberOfTrailingZeros_95d88.desc).map (fun d => d.parameters.length) = some 1 from by decide +kernel, w_methodLink_Sumsetry_278, w_static_java_lang_Long_numberOfTrailingZeros__J_I⟩⟩, fun _ h => absurd h List.not_mem_nil⟩), ink_X7, lgk_X7, fun e h => absurd h List.not_mem_nil, (fun h hh => absurd hh List.not_mem_nil)⟩
theorem ok_X7_lowest : OkM csF yX7_lowest (Cond.code yX7_lowest cX7_lowest 2 (some .int)) 3 0 fn_X7_lowest :=
  OkM_of (own := RX7) (C := C_X7_lowest) (by decide +kernel) rfl (cfg_X7_lowest) rfl rfl rfl rfl (by
    intro av M o M' h
    unfold fn_X7_lowest at h
    split at h
    · rename_i v0
      cases h
      exact ⟨rfl, Nat.le_of_ble_eq_true rfl, (r_X7_lowest v0 M) _ rfl⟩
    · cases h)
def t_X7_rest : List (Nat × Instr × Nat) := [(0, .iload_n 1, 1), (1, .iconst 1, 1), (2, .if_icmp .ge 5, 3), (5, .iconst 0, 1), (6, .ireturn, 1), (7, .iload_n 0, 1), (8, .iload_n 1, 1), (9, .irem, 1), (10, .istore_n 2, 1), (11, .iload_n 2, 1), (12, .ifCond .ge 9, 3), (15, .iload_n 2, 1), (16, .iload_n 1, 1), (17, .iadd, 1), (18, .goto 4, 3), (21, .iload_n 2, 1), (22, .ireturn, 1)]
theorem tk_X7_rest : ∀ x ∈ t_X7_rest, decode cX7_rest x.1 = .ok x.2 := by decide +kernel
def C_X7_rest : Cfg := (t_X7_rest, csF, fl_X7, [], in_X7, lg_X7, [], [], none, (some .int), 0)
set_option maxRecDepth 100000 in
theorem b_X7_rest_0 : (fun (v0 : Int32) (v1 : Int32) (M : Mem) => run C_X7_rest 3 (0, [some (.int v0), some (.int v1), none], [], M, 0)) = (fun (v0 : Int32) (v1 : Int32) (M : Mem) => some (.inl ((br (!decide (v1 < (1 : Int32))) 2 3 (5)), [some (.int v0), some (.int v1), none], [], M, 0))) := by rfl
set_option maxRecDepth 100000 in
theorem b_X7_rest_1 : (fun (v0 : Int32) (v1 : Int32) (M : Mem) => run C_X7_rest 2 (5, [some (.int v0), some (.int v1), none], [], M, 0)) = (fun (v0 : Int32) (v1 : Int32) (M : Mem) => some (.inr (.inl (some (.int (0 : Int32))), M, 0))) := by rfl
set_option maxRecDepth 100000 in
theorem b_X7_rest_2 : (fun (v0 : Int32) (v1 : Int32) (M : Mem) => run C_X7_rest 2 (7, [some (.int v0), some (.int v1), none], [], M, 0)) = (fun (v0 : Int32) (v1 : Int32) (M : Mem) => some (.inl (9, [some (.int v0), some (.int v1), none], [.int v1, .int v0], M, 0))) := by rfl
set_option maxRecDepth 100000 in
theorem b_X7_rest_3 : (fun (v0 : Int32) (v1 : Int32) (M : Mem) => stp C_X7_rest (9, [some (.int v0), some (.int v1), none], [.int v1, .int v0], M, 0)) = (fun (v0 : Int32) (v1 : Int32) (M : Mem) => (if v1 = 0 then none else some (.inl (10, [some (.int v0), some (.int v1), none], [.int (jrem v0 v1)], M, 0)))) := by rfl
set_option maxRecDepth 100000 in
theorem b_X7_rest_4 : (fun (v0 : Int32) (v1 : Int32) (M : Mem) => run C_X7_rest 3 (10, [some (.int v0), some (.int v1), none], [.int (jrem v0 v1)], M, 0)) = (fun (v0 : Int32) (v1 : Int32) (M : Mem) => some (.inl ((br (!decide ((jrem v0 v1) < 0)) 12 3 (9)), [some (.int v0), some (.int v1), some (.int (jrem v0 v1))], [], M, 0))) := by rfl
set_option maxRecDepth 100000 in
theorem b_X7_rest_5 : (fun (v0 : Int32) (v1 : Int32) (M : Mem) => run C_X7_rest 5 (15, [some (.int v0), some (.int v1), some (.int (jrem v0 v1))], [], M, 0)) = (fun (v0 : Int32) (v1 : Int32) (M : Mem) => some (.inr (.inl (some (.int ((jrem v0 v1) + v1))), M, 0))) := by rfl
set_option maxRecDepth 100000 in
theorem b_X7_rest_6 : (fun (v0 : Int32) (v1 : Int32) (M : Mem) => run C_X7_rest 2 (21, [some (.int v0), some (.int v1), some (.int (jrem v0 v1))], [], M, 0)) = (fun (v0 : Int32) (v1 : Int32) (M : Mem) => some (.inr (.inl (some (.int (jrem v0 v1))), M, 0))) := by rfl
def d_X7_rest (v0 : Int32) (v1 : Int32) : Int32 := (if v1 < (1 : Int32) then (0 : Int32) else (if (jrem v0 v1) < 0 then ((jrem v0 v1) + v1) else (jrem v0 v1)))
set_option maxHeartbeats 2000000 in
theorem r_X7_rest (v0 : Int32) (v1 : Int32) (M : Mem) : RG C_X7_rest (0, [some (.int v0), some (.int v1), none], [], M, 0) (some (d_X7_rest v0 v1)) (fun v => .inr (.inl (some (.int v)), M)) := by
  unfold d_X7_rest
  refine RG.st 3 (congrFun (congrFun (congrFun b_X7_rest_0 v0) v1) M) ?_
  refine RG.ites (fun h1 => RG.brNF (q := 5) h1 rfl ?_) (fun h1 => RG.brNT (q := 7) h1 rfl ?_)
  · exact RG.fin rfl (Rend.run 2 (congrFun (congrFun (congrFun b_X7_rest_1 v0) v1) M))
  · refine RG.st 2 (congrFun (congrFun (congrFun b_X7_rest_2 v0) v1) M) ?_
    have h2 : ¬ (v1 = 0) := (by intro h0; rw [h0] at h1; exact h1 (by decide))
    refine RG.st 1 (stp_gN h2 (congrFun (congrFun (congrFun b_X7_rest_3 v0) v1) M)) ?_
    refine RG.st 3 (congrFun (congrFun (congrFun b_X7_rest_4 v0) v1) M) ?_
    refine RG.ites (fun h3 => RG.brNF (q := 15) h3 rfl ?_) (fun h3 => RG.brNT (q := 21) h3 rfl ?_)
    · exact RG.fin rfl (Rend.run 5 (congrFun (congrFun (congrFun b_X7_rest_5 v0) v1) M))
    · exact RG.fin rfl (Rend.run 2 (congrFun (congrFun (congrFun b_X7_rest_6 v0) v1) M))
def fn_X7_rest : Fn := fun av M => match av with
  | [.int v0, .int v1] => some (.inl (some (.int (d_X7_rest v0 v1))), M)
  | _ => none
theorem cfg_X7_rest : CfgOK RX7 cX7_rest (C_X7_rest) 1 := ⟨tk_X7_rest, csF_nd, flk_X7, (fun e h => absurd h List.not_mem_nil), ink_X7, lgk_X7, fun e h => absurd h List.not_mem_nil, (fun h hh => absurd hh List.not_mem_nil)⟩
theorem ok_X7_rest : OkM csF yX7_rest (Cond.code yX7_rest cX7_rest 3 (some .int)) 1 0 fn_X7_rest :=
  OkM_of (own := RX7) (C := C_X7_rest) (by decide +kernel) rfl (cfg_X7_rest) rfl rfl rfl rfl (by
    intro av M o M' h
    unfold fn_X7_rest at h
    split at h
    · rename_i v0 v1
      cases h
      exact ⟨rfl, Nat.le_of_ble_eq_true rfl, (r_X7_rest v0 v1 M) _ rfl⟩
    · cases h)
def t_X7_bit : List (Nat × Instr × Nat) := [(0, .lconst 1, 1), (1, .iload_n 0, 1), (2, .lshl, 1), (3, .lreturn, 1)]
theorem tk_X7_bit : ∀ x ∈ t_X7_bit, decode cX7_bit x.1 = .ok x.2 := by decide +kernel
def C_X7_bit : Cfg := (t_X7_bit, csF, fl_X7, [], in_X7, lg_X7, [], [], none, (some .long), 0)
set_option maxRecDepth 100000 in
theorem b_X7_bit_0 : (fun (v0 : Int32) (M : Mem) => run C_X7_bit 4 (0, [some (.int v0)], [], M, 0)) = (fun (v0 : Int32) (M : Mem) => some (.inr (.inl (some (.long (jshl (1 : Int64) v0))), M, 0))) := by rfl
def d_X7_bit (v0 : Int32) : Int64 := (jshl (1 : Int64) v0)
set_option maxHeartbeats 2000000 in
theorem r_X7_bit (v0 : Int32) (M : Mem) : RG C_X7_bit (0, [some (.int v0)], [], M, 0) (some (d_X7_bit v0)) (fun v => .inr (.inl (some (.long v)), M)) := by
  unfold d_X7_bit
  exact RG.fin rfl (Rend.run 4 (congrFun (congrFun b_X7_bit_0 v0) M))
def fn_X7_bit : Fn := fun av M => match av with
  | [.int v0] => some (.inl (some (.long (d_X7_bit v0))), M)
  | _ => none
theorem cfg_X7_bit : CfgOK RX7 cX7_bit (C_X7_bit) 1 := ⟨tk_X7_bit, csF_nd, flk_X7, (fun e h => absurd h List.not_mem_nil), ink_X7, lgk_X7, fun e h => absurd h List.not_mem_nil, (fun h hh => absurd hh List.not_mem_nil)⟩
theorem ok_X7_bit : OkM csF yX7_bit (Cond.code yX7_bit cX7_bit 1 (some .long)) 1 0 fn_X7_bit :=
  OkM_of (own := RX7) (C := C_X7_bit) (by decide +kernel) rfl (cfg_X7_bit) rfl rfl rfl rfl (by
    intro av M o M' h
    unfold fn_X7_bit at h
    split at h
    · rename_i v0
      cases h
      exact ⟨rfl, Nat.le_of_ble_eq_true rfl, (r_X7_bit v0 M) _ rfl⟩
    · cases h)
def fl_X1 : List (Nat × Nat × Nat) := [(9, 2, 6), (19, 2, 0), (23, 2, 1), (26, 2, 2), (33, 2, 3), (37, 2, 4), (40, 2, 5)]
theorem flk_X1 : ∀ e ∈ fl_X1, fldb RX1 e = true := by decide +kernel
def in_X1 : List (Nat × Int32) := []
theorem ink_X1 : ∀ e ∈ in_X1, Cond.constant RX1 e.1 e.2 ∈ TB := by decide +kernel
def lg_X1 : List (Nat × Int64) := [(51, -1)]
theorem lgk_X1 : ∀ e ∈ lg_X1, Cond.constantLong RX1 e.1 e.2 ∈ TB := by decide +kernel
def t_X1_shifted : List (Nat × Instr × Nat) := [(0, .iload_n 3, 1), (1, .aload_n 0, 1), (2, .getfield 23, 3), (5, .invokestatic 56, 3), (8, .istore 4, 2), (10, .iload_n 3, 1), (11, .iload 4, 2), (13, .isub, 1), (14, .istore 5, 2), (16, .aload_n 0, 1), (17, .getfield 37, 3), (20, .iload 4, 2), (22, .invokestatic 29, 3), (25, .lconst 1, 1), (26, .lsub, 1), (27, .lmul, 1), (28, .lstore 6, 2), (30, .lload_n 1, 1), (31, .iload 4, 2), (33, .lshl, 1), (34, .lload 6, 2), (36, .ldc2_w 51, 3), (39, .lxor, 1), (40, .land, 1), (41, .aload_n 0, 1), (42, .getfield 33, 3), (45, .land, 1), (46, .lload_n 1, 1), (47, .aload_n 0, 1), (48, .getfield 23, 3), (51, .iload 4, 2), (53, .isub, 1), (54, .lushr, 1), (55, .lload 6, 2), (57, .land, 1), (58, .lor, 1), (59, .lstore 8, 2), (61, .lload 8, 2), (63, .iload 5, 2), (65, .lshl, 1), (66, .lload 8, 2), (68, .aload_n 0, 1), (69, .getfield 26, 3), (72, .iload 5, 2), (74, .isub, 1), (75, .lushr, 1), (76, .lor, 1), (77, .aload_n 0, 1), (78, .getfield 33, 3), (81, .land, 1), (82, .lreturn, 1)]
theorem tk_X1_shifted : ∀ x ∈ t_X1_shifted, decode cX1_shifted x.1 = .ok x.2 := by decide +kernel
def C_X1_shifted : Cfg := (t_X1_shifted, csF, fl_X1, [(29, 1, 5, 1, 0, fn_X7_bit), (56, 1, 5, 2, 0, fn_X7_rest)], in_X1, lg_X1, [], [], none, (some .long), 0)
set_option maxRecDepth 100000 in
theorem b_X1_shifted_0 : (fun (v1 : Int64) (v3 : Int32) (M : Mem) => run C_X1_shifted 51 (0, [some (.ref 2), some (.long v1), none, some (.int v3), none, none, none, none, none, none], [], M, 0)) = (fun (v1 : Int64) (v3 : Int32) (M : Mem) => some (.inr (.inl (some (.long (((jshl ((((jshl v1 (d_X7_rest v3 (M.1 2 1))) &&& (((M.2 2 4) * ((d_X7_bit (d_X7_rest v3 (M.1 2 1))) - (1 : Int64))) ^^^ (-1 : Int64))) &&& (M.2 2 3)) ||| ((jushr v1 ((M.1 2 1) - (d_X7_rest v3 (M.1 2 1)))) &&& ((M.2 2 4) * ((d_X7_bit (d_X7_rest v3 (M.1 2 1))) - (1 : Int64))))) (v3 - (d_X7_rest v3 (M.1 2 1)))) ||| (jushr ((((jshl v1 (d_X7_rest v3 (M.1 2 1))) &&& (((M.2 2 4) * ((d_X7_bit (d_X7_rest v3 (M.1 2 1))) - (1 : Int64))) ^^^ (-1 : Int64))) &&& (M.2 2 3)) ||| ((jushr v1 ((M.1 2 1) - (d_X7_rest v3 (M.1 2 1)))) &&& ((M.2 2 4) * ((d_X7_bit (d_X7_rest v3 (M.1 2 1))) - (1 : Int64))))) ((M.1 2 2) - (v3 - (d_X7_rest v3 (M.1 2 1)))))) &&& (M.2 2 3)))), M, 0))) := by rfl
def d_X1_shifted (v1 : Int64) (v3 : Int32) (M : Mem) : Int64 := (((jshl ((((jshl v1 (d_X7_rest v3 (M.1 2 1))) &&& (((M.2 2 4) * ((d_X7_bit (d_X7_rest v3 (M.1 2 1))) - (1 : Int64))) ^^^ (-1 : Int64))) &&& (M.2 2 3)) ||| ((jushr v1 ((M.1 2 1) - (d_X7_rest v3 (M.1 2 1)))) &&& ((M.2 2 4) * ((d_X7_bit (d_X7_rest v3 (M.1 2 1))) - (1 : Int64))))) (v3 - (d_X7_rest v3 (M.1 2 1)))) ||| (jushr ((((jshl v1 (d_X7_rest v3 (M.1 2 1))) &&& (((M.2 2 4) * ((d_X7_bit (d_X7_rest v3 (M.1 2 1))) - (1 : Int64))) ^^^ (-1 : Int64))) &&& (M.2 2 3)) ||| ((jushr v1 ((M.1 2 1) - (d_X7_rest v3 (M.1 2 1)))) &&& ((M.2 2 4) * ((d_X7_bit (d_X7_rest v3 (M.1 2 1))) - (1 : Int64))))) ((M.1 2 2) - (v3 - (d_X7_rest v3 (M.1 2 1)))))) &&& (M.2 2 3))
set_option maxHeartbeats 2000000 in
theorem r_X1_shifted (v1 : Int64) (v3 : Int32) (M : Mem) : RG C_X1_shifted (0, [some (.ref 2), some (.long v1), none, some (.int v3), none, none, none, none, none, none], [], M, 0) (some (d_X1_shifted v1 v3 M)) (fun v => .inr (.inl (some (.long v)), M)) := by
  unfold d_X1_shifted
  exact RG.fin rfl (Rend.run 51 (congrFun (congrFun (congrFun b_X1_shifted_0 v1) v3) M))
def fn_X1_shifted : Fn := fun av M => match av with
  | [.ref r0, .long v1, .int v3] => bif Nat.beq r0 2 then some (.inl (some (.long (d_X1_shifted v1 v3 M))), M) else (none)
  | _ => none
theorem cfg_X1_shifted : CfgOK RX1 cX1_shifted (C_X1_shifted) 2 := ⟨tk_X1_shifted, csF_nd, flk_X1, (List.forall_mem_cons.mpr ⟨Or.inr ⟨yX7_bit, cX7_bit, 1, (some .long), none, 1, ok_X7_bit, by decide, by decide, w_code_Sumsetry_bit__I_J, w_initialized_Sumsetry, ⟨by decide, by decide⟩, Or.inr (Or.inl ⟨rfl, rfl, show (parseMethodDescriptor yX7_bit.desc).map (fun d => d.parameters.length) = some 1 from by decide +kernel, ⟨"Sumsetry", by decide +kernel⟩, w_static_Sumsetry_bit__I_J⟩)⟩,
    List.forall_mem_cons.mpr ⟨Or.inr ⟨yX7_rest, cX7_rest, 3, (some .int), none, 1, ok_X7_rest, by decide, by decide, w_code_Sumsetry_rest__II_I, w_initialized_Sumsetry, ⟨by decide, by decide⟩, Or.inr (Or.inl ⟨rfl, rfl, show (parseMethodDescriptor yX7_rest.desc).map (fun d => d.parameters.length) = some 2 from by decide +kernel, ⟨"Sumsetry", by decide +kernel⟩, w_static_Sumsetry_rest__II_I⟩)⟩, fun _ h => absurd h List.not_mem_nil⟩⟩), ink_X1, lgk_X1, fun e h => absurd h List.not_mem_nil, (fun h hh => absurd hh List.not_mem_nil)⟩
theorem ok_X1_shifted : OkM csF yX1_shifted (Cond.code yX1_shifted cX1_shifted 10 (some .long)) 2 0 fn_X1_shifted :=
  OkM_of (own := RX1) (C := C_X1_shifted) (by decide +kernel) rfl (cfg_X1_shifted) rfl rfl rfl rfl (by
    intro av M o M' h
    unfold fn_X1_shifted at h
    split at h
    · rename_i r0 v1 v3
      rcases bif_cs h with ⟨hb, h⟩ | ⟨-, h⟩
      · skip
        have hr0 := hb
        obtain rfl := Nat.eq_of_beq_eq_true hr0
        cases h
        exact ⟨rfl, Nat.le_of_ble_eq_true rfl, (r_X1_shifted v1 v3 M) _ rfl⟩
      · cases h
    · cases h)
def t_X7_withoutLowest : List (Nat × Instr × Nat) := [(0, .lload_n 0, 1), (1, .lload_n 0, 1), (2, .lconst 1, 1), (3, .lsub, 1), (4, .land, 1), (5, .lreturn, 1)]
theorem tk_X7_withoutLowest : ∀ x ∈ t_X7_withoutLowest, decode cX7_withoutLowest x.1 = .ok x.2 := by decide +kernel
def C_X7_withoutLowest : Cfg := (t_X7_withoutLowest, csF, fl_X7, [], in_X7, lg_X7, [], [], none, (some .long), 0)
set_option maxRecDepth 100000 in
theorem b_X7_withoutLowest_0 : (fun (v0 : Int64) (M : Mem) => run C_X7_withoutLowest 6 (0, [some (.long v0), none], [], M, 0)) = (fun (v0 : Int64) (M : Mem) => some (.inr (.inl (some (.long (v0 &&& (v0 - (1 : Int64))))), M, 0))) := by rfl
def d_X7_withoutLowest (v0 : Int64) : Int64 := (v0 &&& (v0 - (1 : Int64)))
set_option maxHeartbeats 2000000 in
theorem r_X7_withoutLowest (v0 : Int64) (M : Mem) : RG C_X7_withoutLowest (0, [some (.long v0), none], [], M, 0) (some (d_X7_withoutLowest v0)) (fun v => .inr (.inl (some (.long v)), M)) := by
  unfold d_X7_withoutLowest
  exact RG.fin rfl (Rend.run 6 (congrFun (congrFun b_X7_withoutLowest_0 v0) M))
def fn_X7_withoutLowest : Fn := fun av M => match av with
  | [.long v0] => some (.inl (some (.long (d_X7_withoutLowest v0))), M)
  | _ => none
theorem cfg_X7_withoutLowest : CfgOK RX7 cX7_withoutLowest (C_X7_withoutLowest) 1 := ⟨tk_X7_withoutLowest, csF_nd, flk_X7, (fun e h => absurd h List.not_mem_nil), ink_X7, lgk_X7, fun e h => absurd h List.not_mem_nil, (fun h hh => absurd hh List.not_mem_nil)⟩
theorem ok_X7_withoutLowest : OkM csF yX7_withoutLowest (Cond.code yX7_withoutLowest cX7_withoutLowest 2 (some .long)) 1 0 fn_X7_withoutLowest :=
  OkM_of (own := RX7) (C := C_X7_withoutLowest) (by decide +kernel) rfl (cfg_X7_withoutLowest) rfl rfl rfl rfl (by
    intro av M o M' h
    unfold fn_X7_withoutLowest at h
    split at h
    · rename_i v0
      cases h
      exact ⟨rfl, Nat.le_of_ble_eq_true rfl, (r_X7_withoutLowest v0 M) _ rfl⟩
    · cases h)
def fl_X4 : List (Nat × Nat × Nat) := [(46, 2, 5)]
theorem flk_X4 : ∀ e ∈ fl_X4, fldb RX4 e = true := by decide +kernel
def in_X4 : List (Nat × Int32) := []
theorem ink_X4 : ∀ e ∈ in_X4, Cond.constant RX4 e.1 e.2 ∈ TB := by decide +kernel
def lg_X4 : List (Nat × Int64) := [(50, -1)]
theorem lgk_X4 : ∀ e ∈ lg_X4, Cond.constantLong RX4 e.1 e.2 ∈ TB := by decide +kernel
def t_X4_isFree : List (Nat × Instr × Nat) := [(0, .lload_n 1, 1), (1, .lstore_n 3, 1), (2, .lload_n 1, 1), (3, .invokestatic 24, 3), (6, .istore 5, 2), (8, .iload 5, 2), (10, .ifCond .le 32, 3), (13, .aload_n 0, 1), (14, .lload_n 1, 1), (15, .lload_n 3, 1), (16, .invokestatic 30, 3), (19, .invokevirtual 33, 3), (22, .lload_n 1, 1), (23, .land, 1), (24, .lconst 0, 1), (25, .lcmp, 1), (26, .ifCond .eq 5, 3), (29, .iconst 0, 1), (30, .ireturn, 1), (31, .lload_n 3, 1), (32, .invokestatic 39, 3), (35, .lstore_n 3, 1), (36, .iinc 5 (-1), 3), (39, .goto (-31), 3), (42, .iconst 1, 1), (43, .ireturn, 1)]
theorem tk_X4_isFree : ∀ x ∈ t_X4_isFree, decode cX4_isFree x.1 = .ok x.2 := by decide +kernel
def C_X4_isFree : Cfg := (t_X4_isFree, csF, fl_X4, [(24, 0, 0, 1, 0, fn_J13_bitCount_95d88), (30, 1, 5, 1, 0, fn_X7_lowest), (33, 2, 1, 3, 0, fn_X1_shifted), (39, 1, 5, 1, 0, fn_X7_withoutLowest)], in_X4, lg_X4, [], [], none, (some .boolean), 0)
set_option maxRecDepth 100000 in
theorem b_X4_isFree_0 : (fun (v1 : Int64) (M : Mem) => run C_X4_isFree 5 (0, [some (.ref 2), some (.long v1), none, none, none, none], [], M, 0)) = (fun (v1 : Int64) (M : Mem) => some (.inl (8, [some (.ref 2), some (.long v1), none, some (.long v1), none, some (.int (d_J13_bitCount_95d88 v1))], [], M, 0))) := by rfl
set_option maxRecDepth 100000 in
theorem b_X4_isFree_1 : (fun (v1 : Int64) (M : Mem) (a1 : (Int64 × Int32)) => run C_X4_isFree 2 (8, [some (.ref 2), some (.long v1), none, some (.long a1.1), none, some (.int a1.2)], [], M, 0)) = (fun (v1 : Int64) (M : Mem) (a1 : (Int64 × Int32)) => some (.inl ((br (decide (a1.2 ≤ 0)) 10 3 (32)), [some (.ref 2), some (.long v1), none, some (.long a1.1), none, some (.int a1.2)], [], M, 0))) := by rfl
set_option maxRecDepth 100000 in
theorem b_X4_isFree_2 : (fun (v1 : Int64) (M : Mem) (a1 : (Int64 × Int32)) => run C_X4_isFree 10 (13, [some (.ref 2), some (.long v1), none, some (.long a1.1), none, some (.int a1.2)], [], M, 0)) = (fun (v1 : Int64) (M : Mem) (a1 : (Int64 × Int32)) => some (.inl ((br (decide ((lg_cmp ((d_X1_shifted v1 (d_X7_lowest a1.1) M) &&& v1) (0 : Int64)) = 0)) 26 3 (5)), [some (.ref 2), some (.long v1), none, some (.long a1.1), none, some (.int a1.2)], [], M, 0))) := by rfl
set_option maxRecDepth 100000 in
theorem b_X4_isFree_3 : (fun (v1 : Int64) (M : Mem) (a1 : (Int64 × Int32)) => run C_X4_isFree 5 (31, [some (.ref 2), some (.long v1), none, some (.long a1.1), none, some (.int a1.2)], [], M, 0)) = (fun (v1 : Int64) (M : Mem) (a1 : (Int64 × Int32)) => some (.inl (8, [some (.ref 2), some (.long v1), none, some (.long (d_X7_withoutLowest a1.1)), none, some (.int (a1.2 + (-1 : Int32)))], [], M, 0))) := by rfl
set_option maxRecDepth 100000 in
theorem b_X4_isFree_4 : (fun (v1 : Int64) (M : Mem) (a1 : (Int64 × Int32)) => run C_X4_isFree 2 (29, [some (.ref 2), some (.long v1), none, some (.long a1.1), none, some (.int a1.2)], [], M, 0)) = (fun (v1 : Int64) (M : Mem) (a1 : (Int64 × Int32)) => some (.inr (.inl (some (.int (0 : Int32))), M, 0))) := by rfl
def g_X4_isFree_1 (v1 : Int64) (M : Mem) : Int64 × Int32 → Option ((Int64 × Int32) ⊕ ((Int64 × Int32) ⊕ Int32)) := fun (a1 : Int64 × Int32) => (if a1.2 ≤ 0 then some (.inr (.inl (a1.1, a1.2))) else (if (lg_cmp ((d_X1_shifted v1 (d_X7_lowest a1.1) M) &&& v1) (0 : Int64)) = 0 then some (.inl ((d_X7_withoutLowest a1.1), (a1.2 + (-1 : Int32)))) else some (.inr (.inr (0 : Int32)))))
set_option maxHeartbeats 2000000 in
theorem l_X4_isFree_1 (v1 : Int64) (M : Mem) : ∀ a1 : Int64 × Int32, RG C_X4_isFree ((fun (a1 : Int64 × Int32) => (8, [some (.ref 2), some (.long v1), none, some (.long a1.1), none, some (.int a1.2)], [], M, 0)) a1) (g_X4_isFree_1 v1 M a1) (lpP (fun (a1 : Int64 × Int32) => (8, [some (.ref 2), some (.long v1), none, some (.long a1.1), none, some (.int a1.2)], [], M, 0)) (fun (a1 : Int64 × Int32) => (42, [some (.ref 2), some (.long v1), none, some (.long a1.1), none, some (.int a1.2)], [], M, 0)) (fun (v : Int32) => (.inl (some (.int v)), M))) := by
  intro a1
  unfold g_X4_isFree_1
  show RG C_X4_isFree (8, [some (.ref 2), some (.long v1), none, some (.long a1.1), none, some (.int a1.2)], [], M, 0) _ _
  refine RG.st 2 (congrFun (congrFun (congrFun b_X4_isFree_1 v1) M) a1) ?_
  refine RG.ite (fun h1 => RG.brT (q := 42) h1 rfl ?_) (fun h1 => RG.brF (q := 13) h1 rfl ?_)
  · exact RG.to rfl (Rto.refl _)
  · refine RG.st 10 (congrFun (congrFun (congrFun b_X4_isFree_2 v1) M) a1) ?_
    refine RG.ite (fun h2 => RG.brT (q := 31) h2 rfl ?_) (fun h2 => RG.brF (q := 29) h2 rfl ?_)
    · refine RG.st 5 (congrFun (congrFun (congrFun b_X4_isFree_3 v1) M) a1) ?_
      exact RG.to rfl (Rto.refl _)
    · exact RG.fin rfl (Rend.run 2 (congrFun (congrFun (congrFun b_X4_isFree_4 v1) M) a1))
set_option maxRecDepth 100000 in
theorem b_X4_isFree_5 : (fun (v1 : Int64) (M : Mem) (a2 : (Int64 × Int32)) => run C_X4_isFree 2 (42, [some (.ref 2), some (.long v1), none, some (.long a2.1), none, some (.int a2.2)], [], M, 0)) = (fun (v1 : Int64) (M : Mem) (a2 : (Int64 × Int32)) => some (.inr (.inl (some (.int (1 : Int32))), M, 0))) := by rfl
def d_X4_isFree (v1 : Int64) (M : Mem) : Option Int32 := (onIt (iter (g_X4_isFree_1 v1 M) 20000 (v1, (d_J13_bitCount_95d88 v1))) (fun (a2 : Int64 × Int32) => some (1 : Int32)) (fun r => some r))
set_option maxHeartbeats 2000000 in
theorem r_X4_isFree (v1 : Int64) (M : Mem) : RG C_X4_isFree (0, [some (.ref 2), some (.long v1), none, none, none, none], [], M, 0) (d_X4_isFree v1 M) (fun v => .inr (.inl (some (.int v)), M)) := by
  unfold d_X4_isFree
  refine RG.st 5 (congrFun (congrFun b_X4_isFree_0 v1) M) ?_
  refine RG.loop (hd := (fun (a1 : Int64 × Int32) => (8, [some (.ref 2), some (.long v1), none, some (.long a1.1), none, some (.int a1.2)], [], M, 0))) (ex := (fun (a1 : Int64 × Int32) => (42, [some (.ref 2), some (.long v1), none, some (.long a1.1), none, some (.int a1.2)], [], M, 0))) (rt := (fun (v : Int32) => (.inl (some (.int v)), M))) (l_X4_isFree_1 v1 M) (fun a2 => ?_) (fun r v h => by cases h; rfl)
  show RG C_X4_isFree (42, [some (.ref 2), some (.long v1), none, some (.long a2.1), none, some (.int a2.2)], [], M, 0) _ _
  exact RG.fin rfl (Rend.run 2 (congrFun (congrFun (congrFun b_X4_isFree_5 v1) M) a2))
def fn_X4_isFree : Fn := fun av M => match av with
  | [.ref r0, .long v1] => bif Nat.beq r0 2 then (d_X4_isFree v1 M).bind fun v => some (.inl (some (.int v)), M) else (none)
  | _ => none
theorem cfg_X4_isFree : CfgOK RX4 cX4_isFree (C_X4_isFree) 4 := ⟨tk_X4_isFree, csF_nd, flk_X4, (List.forall_mem_cons.mpr ⟨Or.inr ⟨yJ13_bitCount_95d88, cJ13_bitCount_95d88, 2, (some .int), none, 1, ok_J13_bitCount_95d88, by decide, by decide, w_code_java_lang_Long_bitCount__J_I, w_initialized_java_lang_Long, ⟨by decide, by decide⟩, Or.inl ⟨rfl, show (parseMethodDescriptor yJ13_bitCount_95d88.desc).map (fun d => d.parameters.length) = some 1 from by decide +kernel, w_methodLink_Sumsetry_Rules_24, w_static_java_lang_Long_bitCount__J_I⟩⟩,
    List.forall_mem_cons.mpr ⟨Or.inr ⟨yX7_lowest, cX7_lowest, 2, (some .int), none, 3, ok_X7_lowest, by decide, by decide, w_code_Sumsetry_lowest__J_I, w_initialized_Sumsetry, ⟨by decide, by decide⟩, Or.inr (Or.inl ⟨rfl, rfl, show (parseMethodDescriptor yX7_lowest.desc).map (fun d => d.parameters.length) = some 1 from by decide +kernel, ⟨"Sumsetry", by decide +kernel⟩, w_static_Sumsetry_lowest__J_I⟩)⟩,
    List.forall_mem_cons.mpr ⟨Or.inr ⟨yX1_shifted, cX1_shifted, 10, (some .long), none, 2, ok_X1_shifted, by decide, by decide, w_code_Sumsetry_Group_shifted__JI_J, w_initialized_Sumsetry_Group, ⟨by decide, by decide⟩, Or.inr (Or.inr ⟨rfl, rfl, show (parseMethodDescriptor yX1_shifted.desc).map (fun d => d.parameters.length + 1) = some 3 from by decide +kernel, w_methodLink_Sumsetry_Rules_33, w_instanceMethod_Sumsetry_Group_shifted__JI_J, w_selects_Sumsetry_Group_shifted__JI_J, ⟨_, rfl, rfl⟩⟩)⟩,
    List.forall_mem_cons.mpr ⟨Or.inr ⟨yX7_withoutLowest, cX7_withoutLowest, 2, (some .long), none, 1, ok_X7_withoutLowest, by decide, by decide, w_code_Sumsetry_withoutLowest__J_J, w_initialized_Sumsetry, ⟨by decide, by decide⟩, Or.inr (Or.inl ⟨rfl, rfl, show (parseMethodDescriptor yX7_withoutLowest.desc).map (fun d => d.parameters.length) = some 1 from by decide +kernel, ⟨"Sumsetry", by decide +kernel⟩, w_static_Sumsetry_withoutLowest__J_J⟩)⟩, fun _ h => absurd h List.not_mem_nil⟩⟩⟩⟩), ink_X4, lgk_X4, fun e h => absurd h List.not_mem_nil, (fun h hh => absurd hh List.not_mem_nil)⟩
theorem ok_X4_isFree : OkM csF yX4_isFree (Cond.code yX4_isFree cX4_isFree 6 (some .boolean)) 4 0 fn_X4_isFree :=
  OkM_of (own := RX4) (C := C_X4_isFree) (by decide +kernel) rfl (cfg_X4_isFree) rfl rfl rfl rfl (by
    intro av M o M' h
    unfold fn_X4_isFree at h
    split at h
    · rename_i r0 v1
      rcases bif_cs h with ⟨hb, h⟩ | ⟨-, h⟩
      · skip
        have hr0 := hb
        obtain rfl := Nat.eq_of_beq_eq_true hr0
        obtain ⟨w, hw, h⟩ := bind_cs h
        cases h
        exact ⟨rfl, Nat.le_of_ble_eq_true rfl, (r_X4_isFree v1 M) w hw⟩
      · cases h
    · cases h)
def t_X4_isSidon : List (Nat × Instr × Nat) := [(0, .lconst 0, 1), (1, .lstore_n 3, 1), (2, .lload_n 1, 1), (3, .lstore 5, 2), (5, .lload_n 1, 1), (6, .invokestatic 24, 3), (9, .istore 7, 2), (11, .iload 7, 2), (13, .ifCond .le 45, 3), (16, .aload_n 0, 1), (17, .lload 5, 2), (19, .lload 5, 2), (21, .invokestatic 30, 3), (24, .invokevirtual 33, 3), (27, .lstore 8, 2), (29, .lload 8, 2), (31, .lload_n 3, 1), (32, .land, 1), (33, .lconst 0, 1), (34, .lcmp, 1), (35, .ifCond .eq 5, 3), (38, .iconst 0, 1), (39, .ireturn, 1), (40, .lload_n 3, 1), (41, .lload 8, 2), (43, .lor, 1), (44, .lstore_n 3, 1), (45, .lload 5, 2), (47, .invokestatic 39, 3), (50, .lstore 5, 2), (52, .iinc 7 (-1), 3), (55, .goto (-44), 3), (58, .iconst 1, 1), (59, .ireturn, 1)]
theorem tk_X4_isSidon : ∀ x ∈ t_X4_isSidon, decode cX4_isSidon x.1 = .ok x.2 := by decide +kernel
def C_X4_isSidon : Cfg := (t_X4_isSidon, csF, fl_X4, [(24, 0, 0, 1, 0, fn_J13_bitCount_95d88), (30, 1, 5, 1, 0, fn_X7_lowest), (33, 2, 1, 3, 0, fn_X1_shifted), (39, 1, 5, 1, 0, fn_X7_withoutLowest)], in_X4, lg_X4, [], [], none, (some .boolean), 0)
set_option maxRecDepth 100000 in
theorem b_X4_isSidon_0 : (fun (v1 : Int64) (M : Mem) => run C_X4_isSidon 7 (0, [some (.ref 2), some (.long v1), none, none, none, none, none, none, none, none], [], M, 0)) = (fun (v1 : Int64) (M : Mem) => some (.inl (11, [some (.ref 2), some (.long v1), none, some (.long (0 : Int64)), none, some (.long v1), none, some (.int (d_J13_bitCount_95d88 v1)), none, none], [], M, 0))) := by rfl
set_option maxRecDepth 100000 in
theorem b_X4_isSidon_1 : (fun (v1 : Int64) (M : Mem) (a1 : (Int64 × Int64 × Int32)) => run C_X4_isSidon 2 (11, [some (.ref 2), some (.long v1), none, some (.long a1.1), none, some (.long a1.2.1), none, some (.int a1.2.2), none, none], [], M, 0)) = (fun (v1 : Int64) (M : Mem) (a1 : (Int64 × Int64 × Int32)) => some (.inl ((br (decide (a1.2.2 ≤ 0)) 13 3 (45)), [some (.ref 2), some (.long v1), none, some (.long a1.1), none, some (.long a1.2.1), none, some (.int a1.2.2), none, none], [], M, 0))) := by rfl
set_option maxRecDepth 100000 in
theorem b_X4_isSidon_2 : (fun (v1 : Int64) (M : Mem) (a1 : (Int64 × Int64 × Int32)) => run C_X4_isSidon 12 (16, [some (.ref 2), some (.long v1), none, some (.long a1.1), none, some (.long a1.2.1), none, some (.int a1.2.2), none, none], [], M, 0)) = (fun (v1 : Int64) (M : Mem) (a1 : (Int64 × Int64 × Int32)) => some (.inl ((br (decide ((lg_cmp ((d_X1_shifted a1.2.1 (d_X7_lowest a1.2.1) M) &&& a1.1) (0 : Int64)) = 0)) 35 3 (5)), [some (.ref 2), some (.long v1), none, some (.long a1.1), none, some (.long a1.2.1), none, some (.int a1.2.2), some (.long (d_X1_shifted a1.2.1 (d_X7_lowest a1.2.1) M)), none], [], M, 0))) := by rfl
set_option maxRecDepth 100000 in
theorem b_X4_isSidon_3 : (fun (v1 : Int64) (M : Mem) (a1 : (Int64 × Int64 × Int32)) => run C_X4_isSidon 9 (40, [some (.ref 2), some (.long v1), none, some (.long a1.1), none, some (.long a1.2.1), none, some (.int a1.2.2), some (.long (d_X1_shifted a1.2.1 (d_X7_lowest a1.2.1) M)), none], [], M, 0)) = (fun (v1 : Int64) (M : Mem) (a1 : (Int64 × Int64 × Int32)) => some (.inl (11, [some (.ref 2), some (.long v1), none, some (.long (a1.1 ||| (d_X1_shifted a1.2.1 (d_X7_lowest a1.2.1) M))), none, some (.long (d_X7_withoutLowest a1.2.1)), none, some (.int (a1.2.2 + (-1 : Int32))), some (.long (d_X1_shifted a1.2.1 (d_X7_lowest a1.2.1) M)), none], [], M, 0))) := by rfl
set_option maxRecDepth 100000 in
theorem b_X4_isSidon_4 : (fun (v1 : Int64) (M : Mem) (a1 : (Int64 × Int64 × Int32)) => run C_X4_isSidon 2 (38, [some (.ref 2), some (.long v1), none, some (.long a1.1), none, some (.long a1.2.1), none, some (.int a1.2.2), some (.long (d_X1_shifted a1.2.1 (d_X7_lowest a1.2.1) M)), none], [], M, 0)) = (fun (v1 : Int64) (M : Mem) (a1 : (Int64 × Int64 × Int32)) => some (.inr (.inl (some (.int (0 : Int32))), M, 0))) := by rfl
def g_X4_isSidon_1 (M : Mem) : Int64 × Int64 × Int32 → Option ((Int64 × Int64 × Int32) ⊕ ((Int64 × Int64 × Int32) ⊕ Int32)) := fun (a1 : Int64 × Int64 × Int32) => (if a1.2.2 ≤ 0 then some (.inr (.inl (a1.1, a1.2.1, a1.2.2))) else (if (lg_cmp ((d_X1_shifted a1.2.1 (d_X7_lowest a1.2.1) M) &&& a1.1) (0 : Int64)) = 0 then some (.inl ((a1.1 ||| (d_X1_shifted a1.2.1 (d_X7_lowest a1.2.1) M)), (d_X7_withoutLowest a1.2.1), (a1.2.2 + (-1 : Int32)))) else some (.inr (.inr (0 : Int32)))))
set_option maxHeartbeats 2000000 in
theorem l_X4_isSidon_1 (v1 : Int64) (M : Mem) : ∀ a1 : Int64 × Int64 × Int32, RG C_X4_isSidon ((fun (a1 : Int64 × Int64 × Int32) => (11, [some (.ref 2), some (.long v1), none, some (.long a1.1), none, some (.long a1.2.1), none, some (.int a1.2.2), none, none], [], M, 0)) a1) (g_X4_isSidon_1 M a1) (lpP (fun (a1 : Int64 × Int64 × Int32) => (11, [some (.ref 2), some (.long v1), none, some (.long a1.1), none, some (.long a1.2.1), none, some (.int a1.2.2), none, none], [], M, 0)) (fun (a1 : Int64 × Int64 × Int32) => (58, [some (.ref 2), some (.long v1), none, some (.long a1.1), none, some (.long a1.2.1), none, some (.int a1.2.2), none, none], [], M, 0)) (fun (v : Int32) => (.inl (some (.int v)), M))) := by
  intro a1
  unfold g_X4_isSidon_1
  show RG C_X4_isSidon (11, [some (.ref 2), some (.long v1), none, some (.long a1.1), none, some (.long a1.2.1), none, some (.int a1.2.2), none, none], [], M, 0) _ _
  refine RG.st 2 (congrFun (congrFun (congrFun b_X4_isSidon_1 v1) M) a1) ?_
  refine RG.ite (fun h1 => RG.brT (q := 58) h1 rfl ?_) (fun h1 => RG.brF (q := 16) h1 rfl ?_)
  · exact RG.to rfl (Rto.refl _)
  · refine RG.st 12 (congrFun (congrFun (congrFun b_X4_isSidon_2 v1) M) a1) ?_
    refine RG.ite (fun h2 => RG.brT (q := 40) h2 rfl ?_) (fun h2 => RG.brF (q := 38) h2 rfl ?_)
    · refine RG.st 9 (congrFun (congrFun (congrFun b_X4_isSidon_3 v1) M) a1) ?_
      exact RG.to rfl (Rto.fgt [8] rfl)
    · exact RG.fin rfl (Rend.run 2 (congrFun (congrFun (congrFun b_X4_isSidon_4 v1) M) a1))
set_option maxRecDepth 100000 in
theorem b_X4_isSidon_5 : (fun (v1 : Int64) (M : Mem) (a2 : (Int64 × Int64 × Int32)) => run C_X4_isSidon 2 (58, [some (.ref 2), some (.long v1), none, some (.long a2.1), none, some (.long a2.2.1), none, some (.int a2.2.2), none, none], [], M, 0)) = (fun (v1 : Int64) (M : Mem) (a2 : (Int64 × Int64 × Int32)) => some (.inr (.inl (some (.int (1 : Int32))), M, 0))) := by rfl
def d_X4_isSidon (v1 : Int64) (M : Mem) : Option Int32 := (onIt (iter (g_X4_isSidon_1 M) 20000 ((0 : Int64), v1, (d_J13_bitCount_95d88 v1))) (fun (a2 : Int64 × Int64 × Int32) => some (1 : Int32)) (fun r => some r))
set_option maxHeartbeats 2000000 in
theorem r_X4_isSidon (v1 : Int64) (M : Mem) : RG C_X4_isSidon (0, [some (.ref 2), some (.long v1), none, none, none, none, none, none, none, none], [], M, 0) (d_X4_isSidon v1 M) (fun v => .inr (.inl (some (.int v)), M)) := by
  unfold d_X4_isSidon
  refine RG.st 7 (congrFun (congrFun b_X4_isSidon_0 v1) M) ?_
  refine RG.loop (hd := (fun (a1 : Int64 × Int64 × Int32) => (11, [some (.ref 2), some (.long v1), none, some (.long a1.1), none, some (.long a1.2.1), none, some (.int a1.2.2), none, none], [], M, 0))) (ex := (fun (a1 : Int64 × Int64 × Int32) => (58, [some (.ref 2), some (.long v1), none, some (.long a1.1), none, some (.long a1.2.1), none, some (.int a1.2.2), none, none], [], M, 0))) (rt := (fun (v : Int32) => (.inl (some (.int v)), M))) (l_X4_isSidon_1 v1 M) (fun a2 => ?_) (fun r v h => by cases h; rfl)
  show RG C_X4_isSidon (58, [some (.ref 2), some (.long v1), none, some (.long a2.1), none, some (.long a2.2.1), none, some (.int a2.2.2), none, none], [], M, 0) _ _
  exact RG.fin rfl (Rend.run 2 (congrFun (congrFun (congrFun b_X4_isSidon_5 v1) M) a2))
def fn_X4_isSidon : Fn := fun av M => match av with
  | [.ref r0, .long v1] => bif Nat.beq r0 2 then (d_X4_isSidon v1 M).bind fun v => some (.inl (some (.int v)), M) else (none)
  | _ => none
theorem cfg_X4_isSidon : CfgOK RX4 cX4_isSidon (C_X4_isSidon) 4 := ⟨tk_X4_isSidon, csF_nd, flk_X4, (List.forall_mem_cons.mpr ⟨Or.inr ⟨yJ13_bitCount_95d88, cJ13_bitCount_95d88, 2, (some .int), none, 1, ok_J13_bitCount_95d88, by decide, by decide, w_code_java_lang_Long_bitCount__J_I, w_initialized_java_lang_Long, ⟨by decide, by decide⟩, Or.inl ⟨rfl, show (parseMethodDescriptor yJ13_bitCount_95d88.desc).map (fun d => d.parameters.length) = some 1 from by decide +kernel, w_methodLink_Sumsetry_Rules_24, w_static_java_lang_Long_bitCount__J_I⟩⟩,
    List.forall_mem_cons.mpr ⟨Or.inr ⟨yX7_lowest, cX7_lowest, 2, (some .int), none, 3, ok_X7_lowest, by decide, by decide, w_code_Sumsetry_lowest__J_I, w_initialized_Sumsetry, ⟨by decide, by decide⟩, Or.inr (Or.inl ⟨rfl, rfl, show (parseMethodDescriptor yX7_lowest.desc).map (fun d => d.parameters.length) = some 1 from by decide +kernel, ⟨"Sumsetry", by decide +kernel⟩, w_static_Sumsetry_lowest__J_I⟩)⟩,
    List.forall_mem_cons.mpr ⟨Or.inr ⟨yX1_shifted, cX1_shifted, 10, (some .long), none, 2, ok_X1_shifted, by decide, by decide, w_code_Sumsetry_Group_shifted__JI_J, w_initialized_Sumsetry_Group, ⟨by decide, by decide⟩, Or.inr (Or.inr ⟨rfl, rfl, show (parseMethodDescriptor yX1_shifted.desc).map (fun d => d.parameters.length + 1) = some 3 from by decide +kernel, w_methodLink_Sumsetry_Rules_33, w_instanceMethod_Sumsetry_Group_shifted__JI_J, w_selects_Sumsetry_Group_shifted__JI_J, ⟨_, rfl, rfl⟩⟩)⟩,
    List.forall_mem_cons.mpr ⟨Or.inr ⟨yX7_withoutLowest, cX7_withoutLowest, 2, (some .long), none, 1, ok_X7_withoutLowest, by decide, by decide, w_code_Sumsetry_withoutLowest__J_J, w_initialized_Sumsetry, ⟨by decide, by decide⟩, Or.inr (Or.inl ⟨rfl, rfl, show (parseMethodDescriptor yX7_withoutLowest.desc).map (fun d => d.parameters.length) = some 1 from by decide +kernel, ⟨"Sumsetry", by decide +kernel⟩, w_static_Sumsetry_withoutLowest__J_J⟩)⟩, fun _ h => absurd h List.not_mem_nil⟩⟩⟩⟩), ink_X4, lgk_X4, fun e h => absurd h List.not_mem_nil, (fun h hh => absurd hh List.not_mem_nil)⟩
theorem ok_X4_isSidon : OkM csF yX4_isSidon (Cond.code yX4_isSidon cX4_isSidon 10 (some .boolean)) 4 0 fn_X4_isSidon :=
  OkM_of (own := RX4) (C := C_X4_isSidon) (by decide +kernel) rfl (cfg_X4_isSidon) rfl rfl rfl rfl (by
    intro av M o M' h
    unfold fn_X4_isSidon at h
    split at h
    · rename_i r0 v1
      rcases bif_cs h with ⟨hb, h⟩ | ⟨-, h⟩
      · skip
        have hr0 := hb
        obtain rfl := Nat.eq_of_beq_eq_true hr0
        obtain ⟨w, hw, h⟩ := bind_cs h
        cases h
        exact ⟨rfl, Nat.le_of_ble_eq_true rfl, (r_X4_isSidon v1 M) w hw⟩
      · cases h
    · cases h)
def d_X7_at (k : Nat) (n : Int32) (v1 : Int32) (M : Mem) : Int32 := (if v1 < 0 then (0 : Int32) else (if v1 < n then (M.1 k (ix v1)) else (0 : Int32)))
def t_X7_at : List (Nat × Instr × Nat) := [(0, .iload_n 1, 1), (1, .ifCond .lt 15, 3), (4, .iload_n 1, 1), (5, .aload_n 0, 1), (6, .arraylength, 1), (7, .if_icmp .ge 9, 3), (10, .aload_n 0, 1), (11, .iload_n 1, 1), (12, .iaload, 1), (13, .goto 4, 3), (16, .iconst 0, 1), (17, .ireturn, 1)]
theorem tk_X7_at : ∀ x ∈ t_X7_at, decode cX7_at x.1 = .ok x.2 := by decide +kernel
def C_X7_at : Cfg := (t_X7_at, csF, fl_X7, [], in_X7, lg_X7, [], [], none, (some .int), 0)
set_option maxRecDepth 100000 in
theorem b_X7_at_k3_0 : (fun (v1 : Int32) (M : Mem) => run C_X7_at 2 (0, [some (.ref 3), some (.int v1)], [], M, 0)) = (fun (v1 : Int32) (M : Mem) => some (.inl ((br (decide (v1 < 0)) 1 3 (15)), [some (.ref 3), some (.int v1)], [], M, 0))) := by rfl
set_option maxRecDepth 100000 in
theorem b_X7_at_k3_1 : (fun (v1 : Int32) (M : Mem) => run C_X7_at 2 (16, [some (.ref 3), some (.int v1)], [], M, 0)) = (fun (v1 : Int32) (M : Mem) => some (.inr (.inl (some (.int (0 : Int32))), M, 0))) := by rfl
set_option maxRecDepth 100000 in
theorem b_X7_at_k3_2 : (fun (v1 : Int32) (M : Mem) => run C_X7_at 4 (4, [some (.ref 3), some (.int v1)], [], M, 0)) = (fun (v1 : Int32) (M : Mem) => some (.inl ((br (!decide (v1 < (36 : Int32))) 7 3 (9)), [some (.ref 3), some (.int v1)], [], M, 0))) := by rfl
set_option maxRecDepth 100000 in
theorem b_X7_at_k3_3 : (fun (v1 : Int32) (M : Mem) => run C_X7_at 2 (10, [some (.ref 3), some (.int v1)], [], M, 0)) = (fun (v1 : Int32) (M : Mem) => some (.inl (12, [some (.ref 3), some (.int v1)], [.int v1, .ref 3], M, 0))) := by rfl
set_option maxRecDepth 100000 in
theorem b_X7_at_k3_4 : (fun (v1 : Int32) (M : Mem) => stp C_X7_at (12, [some (.ref 3), some (.int v1)], [.int v1, .ref 3], M, 0)) = (fun (v1 : Int32) (M : Mem) => (if inb v1 36 = true then some (.inl (13, [some (.ref 3), some (.int v1)], [.int (M.1 3 (ix v1))], M, 0)) else none)) := by rfl
set_option maxRecDepth 100000 in
theorem b_X7_at_k3_5 : (fun (v1 : Int32) (M : Mem) => run C_X7_at 2 (13, [some (.ref 3), some (.int v1)], [.int (M.1 3 (ix v1))], M, 0)) = (fun (v1 : Int32) (M : Mem) => some (.inr (.inl (some (.int (M.1 3 (ix v1)))), M, 0))) := by rfl
set_option maxRecDepth 100000 in
theorem b_X7_at_k3_6 : (fun (v1 : Int32) (M : Mem) => run C_X7_at 2 (16, [some (.ref 3), some (.int v1)], [], M, 0)) = (fun (v1 : Int32) (M : Mem) => some (.inr (.inl (some (.int (0 : Int32))), M, 0))) := by rfl
set_option maxHeartbeats 2000000 in
theorem r_X7_at_k3 (v1 : Int32) (M : Mem) : RG C_X7_at (0, [some (.ref 3), some (.int v1)], [], M, 0) (some (d_X7_at 3 36 v1 M)) (fun v => .inr (.inl (some (.int v)), M)) := by
  unfold d_X7_at
  refine RG.st 2 (congrFun (congrFun b_X7_at_k3_0 v1) M) ?_
  refine RG.ites (fun h1 => RG.brT (q := 16) h1 rfl ?_) (fun h1 => RG.brF (q := 4) h1 rfl ?_)
  · exact RG.fin rfl (Rend.run 2 (congrFun (congrFun b_X7_at_k3_1 v1) M))
  · refine RG.st 4 (congrFun (congrFun b_X7_at_k3_2 v1) M) ?_
    refine RG.ites (fun h2 => RG.brNF (q := 10) h2 rfl ?_) (fun h2 => RG.brNT (q := 16) h2 rfl ?_)
    · refine RG.st 2 (congrFun (congrFun b_X7_at_k3_3 v1) M) ?_
      have h3 : (inb v1 36 = true) := inb_of h1 h2 (by decide) (by decide)
      refine RG.st 1 (stp_g h3 (congrFun (congrFun b_X7_at_k3_4 v1) M)) ?_
      exact RG.fin rfl (Rend.run 2 (congrFun (congrFun b_X7_at_k3_5 v1) M))
    · exact RG.fin rfl (Rend.run 2 (congrFun (congrFun b_X7_at_k3_6 v1) M))
set_option maxRecDepth 100000 in
theorem b_X7_at_k5_0 : (fun (v1 : Int32) (M : Mem) => run C_X7_at 2 (0, [some (.ref 5), some (.int v1)], [], M, 0)) = (fun (v1 : Int32) (M : Mem) => some (.inl ((br (decide (v1 < 0)) 1 3 (15)), [some (.ref 5), some (.int v1)], [], M, 0))) := by rfl
set_option maxRecDepth 100000 in
theorem b_X7_at_k5_1 : (fun (v1 : Int32) (M : Mem) => run C_X7_at 2 (16, [some (.ref 5), some (.int v1)], [], M, 0)) = (fun (v1 : Int32) (M : Mem) => some (.inr (.inl (some (.int (0 : Int32))), M, 0))) := by rfl
set_option maxRecDepth 100000 in
theorem b_X7_at_k5_2 : (fun (v1 : Int32) (M : Mem) => run C_X7_at 4 (4, [some (.ref 5), some (.int v1)], [], M, 0)) = (fun (v1 : Int32) (M : Mem) => some (.inl ((br (!decide (v1 < (6 : Int32))) 7 3 (9)), [some (.ref 5), some (.int v1)], [], M, 0))) := by rfl
set_option maxRecDepth 100000 in
theorem b_X7_at_k5_3 : (fun (v1 : Int32) (M : Mem) => run C_X7_at 2 (10, [some (.ref 5), some (.int v1)], [], M, 0)) = (fun (v1 : Int32) (M : Mem) => some (.inl (12, [some (.ref 5), some (.int v1)], [.int v1, .ref 5], M, 0))) := by rfl
set_option maxRecDepth 100000 in
theorem b_X7_at_k5_4 : (fun (v1 : Int32) (M : Mem) => stp C_X7_at (12, [some (.ref 5), some (.int v1)], [.int v1, .ref 5], M, 0)) = (fun (v1 : Int32) (M : Mem) => (if inb v1 6 = true then some (.inl (13, [some (.ref 5), some (.int v1)], [.int (M.1 5 (ix v1))], M, 0)) else none)) := by rfl
set_option maxRecDepth 100000 in
theorem b_X7_at_k5_5 : (fun (v1 : Int32) (M : Mem) => run C_X7_at 2 (13, [some (.ref 5), some (.int v1)], [.int (M.1 5 (ix v1))], M, 0)) = (fun (v1 : Int32) (M : Mem) => some (.inr (.inl (some (.int (M.1 5 (ix v1)))), M, 0))) := by rfl
set_option maxRecDepth 100000 in
theorem b_X7_at_k5_6 : (fun (v1 : Int32) (M : Mem) => run C_X7_at 2 (16, [some (.ref 5), some (.int v1)], [], M, 0)) = (fun (v1 : Int32) (M : Mem) => some (.inr (.inl (some (.int (0 : Int32))), M, 0))) := by rfl
set_option maxHeartbeats 2000000 in
theorem r_X7_at_k5 (v1 : Int32) (M : Mem) : RG C_X7_at (0, [some (.ref 5), some (.int v1)], [], M, 0) (some (d_X7_at 5 6 v1 M)) (fun v => .inr (.inl (some (.int v)), M)) := by
  unfold d_X7_at
  refine RG.st 2 (congrFun (congrFun b_X7_at_k5_0 v1) M) ?_
  refine RG.ites (fun h1 => RG.brT (q := 16) h1 rfl ?_) (fun h1 => RG.brF (q := 4) h1 rfl ?_)
  · exact RG.fin rfl (Rend.run 2 (congrFun (congrFun b_X7_at_k5_1 v1) M))
  · refine RG.st 4 (congrFun (congrFun b_X7_at_k5_2 v1) M) ?_
    refine RG.ites (fun h2 => RG.brNF (q := 10) h2 rfl ?_) (fun h2 => RG.brNT (q := 16) h2 rfl ?_)
    · refine RG.st 2 (congrFun (congrFun b_X7_at_k5_3 v1) M) ?_
      have h3 : (inb v1 6 = true) := inb_of h1 h2 (by decide) (by decide)
      refine RG.st 1 (stp_g h3 (congrFun (congrFun b_X7_at_k5_4 v1) M)) ?_
      exact RG.fin rfl (Rend.run 2 (congrFun (congrFun b_X7_at_k5_5 v1) M))
    · exact RG.fin rfl (Rend.run 2 (congrFun (congrFun b_X7_at_k5_6 v1) M))
set_option maxRecDepth 100000 in
theorem b_X7_at_k6_0 : (fun (v1 : Int32) (M : Mem) => run C_X7_at 2 (0, [some (.ref 6), some (.int v1)], [], M, 0)) = (fun (v1 : Int32) (M : Mem) => some (.inl ((br (decide (v1 < 0)) 1 3 (15)), [some (.ref 6), some (.int v1)], [], M, 0))) := by rfl
set_option maxRecDepth 100000 in
theorem b_X7_at_k6_1 : (fun (v1 : Int32) (M : Mem) => run C_X7_at 2 (16, [some (.ref 6), some (.int v1)], [], M, 0)) = (fun (v1 : Int32) (M : Mem) => some (.inr (.inl (some (.int (0 : Int32))), M, 0))) := by rfl
set_option maxRecDepth 100000 in
theorem b_X7_at_k6_2 : (fun (v1 : Int32) (M : Mem) => run C_X7_at 4 (4, [some (.ref 6), some (.int v1)], [], M, 0)) = (fun (v1 : Int32) (M : Mem) => some (.inl ((br (!decide (v1 < (6 : Int32))) 7 3 (9)), [some (.ref 6), some (.int v1)], [], M, 0))) := by rfl
set_option maxRecDepth 100000 in
theorem b_X7_at_k6_3 : (fun (v1 : Int32) (M : Mem) => run C_X7_at 2 (10, [some (.ref 6), some (.int v1)], [], M, 0)) = (fun (v1 : Int32) (M : Mem) => some (.inl (12, [some (.ref 6), some (.int v1)], [.int v1, .ref 6], M, 0))) := by rfl
set_option maxRecDepth 100000 in
theorem b_X7_at_k6_4 : (fun (v1 : Int32) (M : Mem) => stp C_X7_at (12, [some (.ref 6), some (.int v1)], [.int v1, .ref 6], M, 0)) = (fun (v1 : Int32) (M : Mem) => (if inb v1 6 = true then some (.inl (13, [some (.ref 6), some (.int v1)], [.int (M.1 6 (ix v1))], M, 0)) else none)) := by rfl
set_option maxRecDepth 100000 in
theorem b_X7_at_k6_5 : (fun (v1 : Int32) (M : Mem) => run C_X7_at 2 (13, [some (.ref 6), some (.int v1)], [.int (M.1 6 (ix v1))], M, 0)) = (fun (v1 : Int32) (M : Mem) => some (.inr (.inl (some (.int (M.1 6 (ix v1)))), M, 0))) := by rfl
set_option maxRecDepth 100000 in
theorem b_X7_at_k6_6 : (fun (v1 : Int32) (M : Mem) => run C_X7_at 2 (16, [some (.ref 6), some (.int v1)], [], M, 0)) = (fun (v1 : Int32) (M : Mem) => some (.inr (.inl (some (.int (0 : Int32))), M, 0))) := by rfl
set_option maxHeartbeats 2000000 in
theorem r_X7_at_k6 (v1 : Int32) (M : Mem) : RG C_X7_at (0, [some (.ref 6), some (.int v1)], [], M, 0) (some (d_X7_at 6 6 v1 M)) (fun v => .inr (.inl (some (.int v)), M)) := by
  unfold d_X7_at
  refine RG.st 2 (congrFun (congrFun b_X7_at_k6_0 v1) M) ?_
  refine RG.ites (fun h1 => RG.brT (q := 16) h1 rfl ?_) (fun h1 => RG.brF (q := 4) h1 rfl ?_)
  · exact RG.fin rfl (Rend.run 2 (congrFun (congrFun b_X7_at_k6_1 v1) M))
  · refine RG.st 4 (congrFun (congrFun b_X7_at_k6_2 v1) M) ?_
    refine RG.ites (fun h2 => RG.brNF (q := 10) h2 rfl ?_) (fun h2 => RG.brNT (q := 16) h2 rfl ?_)
    · refine RG.st 2 (congrFun (congrFun b_X7_at_k6_3 v1) M) ?_
      have h3 : (inb v1 6 = true) := inb_of h1 h2 (by decide) (by decide)
      refine RG.st 1 (stp_g h3 (congrFun (congrFun b_X7_at_k6_4 v1) M)) ?_
      exact RG.fin rfl (Rend.run 2 (congrFun (congrFun b_X7_at_k6_5 v1) M))
    · exact RG.fin rfl (Rend.run 2 (congrFun (congrFun b_X7_at_k6_6 v1) M))
set_option maxRecDepth 100000 in
theorem b_X7_at_k7_0 : (fun (v1 : Int32) (M : Mem) => run C_X7_at 2 (0, [some (.ref 7), some (.int v1)], [], M, 0)) = (fun (v1 : Int32) (M : Mem) => some (.inl ((br (decide (v1 < 0)) 1 3 (15)), [some (.ref 7), some (.int v1)], [], M, 0))) := by rfl
set_option maxRecDepth 100000 in
theorem b_X7_at_k7_1 : (fun (v1 : Int32) (M : Mem) => run C_X7_at 2 (16, [some (.ref 7), some (.int v1)], [], M, 0)) = (fun (v1 : Int32) (M : Mem) => some (.inr (.inl (some (.int (0 : Int32))), M, 0))) := by rfl
set_option maxRecDepth 100000 in
theorem b_X7_at_k7_2 : (fun (v1 : Int32) (M : Mem) => run C_X7_at 4 (4, [some (.ref 7), some (.int v1)], [], M, 0)) = (fun (v1 : Int32) (M : Mem) => some (.inl ((br (!decide (v1 < (6 : Int32))) 7 3 (9)), [some (.ref 7), some (.int v1)], [], M, 0))) := by rfl
set_option maxRecDepth 100000 in
theorem b_X7_at_k7_3 : (fun (v1 : Int32) (M : Mem) => run C_X7_at 2 (10, [some (.ref 7), some (.int v1)], [], M, 0)) = (fun (v1 : Int32) (M : Mem) => some (.inl (12, [some (.ref 7), some (.int v1)], [.int v1, .ref 7], M, 0))) := by rfl
set_option maxRecDepth 100000 in
theorem b_X7_at_k7_4 : (fun (v1 : Int32) (M : Mem) => stp C_X7_at (12, [some (.ref 7), some (.int v1)], [.int v1, .ref 7], M, 0)) = (fun (v1 : Int32) (M : Mem) => (if inb v1 6 = true then some (.inl (13, [some (.ref 7), some (.int v1)], [.int (M.1 7 (ix v1))], M, 0)) else none)) := by rfl
set_option maxRecDepth 100000 in
theorem b_X7_at_k7_5 : (fun (v1 : Int32) (M : Mem) => run C_X7_at 2 (13, [some (.ref 7), some (.int v1)], [.int (M.1 7 (ix v1))], M, 0)) = (fun (v1 : Int32) (M : Mem) => some (.inr (.inl (some (.int (M.1 7 (ix v1)))), M, 0))) := by rfl
set_option maxRecDepth 100000 in
theorem b_X7_at_k7_6 : (fun (v1 : Int32) (M : Mem) => run C_X7_at 2 (16, [some (.ref 7), some (.int v1)], [], M, 0)) = (fun (v1 : Int32) (M : Mem) => some (.inr (.inl (some (.int (0 : Int32))), M, 0))) := by rfl
set_option maxHeartbeats 2000000 in
theorem r_X7_at_k7 (v1 : Int32) (M : Mem) : RG C_X7_at (0, [some (.ref 7), some (.int v1)], [], M, 0) (some (d_X7_at 7 6 v1 M)) (fun v => .inr (.inl (some (.int v)), M)) := by
  unfold d_X7_at
  refine RG.st 2 (congrFun (congrFun b_X7_at_k7_0 v1) M) ?_
  refine RG.ites (fun h1 => RG.brT (q := 16) h1 rfl ?_) (fun h1 => RG.brF (q := 4) h1 rfl ?_)
  · exact RG.fin rfl (Rend.run 2 (congrFun (congrFun b_X7_at_k7_1 v1) M))
  · refine RG.st 4 (congrFun (congrFun b_X7_at_k7_2 v1) M) ?_
    refine RG.ites (fun h2 => RG.brNF (q := 10) h2 rfl ?_) (fun h2 => RG.brNT (q := 16) h2 rfl ?_)
    · refine RG.st 2 (congrFun (congrFun b_X7_at_k7_3 v1) M) ?_
      have h3 : (inb v1 6 = true) := inb_of h1 h2 (by decide) (by decide)
      refine RG.st 1 (stp_g h3 (congrFun (congrFun b_X7_at_k7_4 v1) M)) ?_
      exact RG.fin rfl (Rend.run 2 (congrFun (congrFun b_X7_at_k7_5 v1) M))
    · exact RG.fin rfl (Rend.run 2 (congrFun (congrFun b_X7_at_k7_6 v1) M))
set_option maxRecDepth 100000 in
theorem b_X7_at_k8_0 : (fun (v1 : Int32) (M : Mem) => run C_X7_at 2 (0, [some (.ref 8), some (.int v1)], [], M, 0)) = (fun (v1 : Int32) (M : Mem) => some (.inl ((br (decide (v1 < 0)) 1 3 (15)), [some (.ref 8), some (.int v1)], [], M, 0))) := by rfl
set_option maxRecDepth 100000 in
theorem b_X7_at_k8_1 : (fun (v1 : Int32) (M : Mem) => run C_X7_at 2 (16, [some (.ref 8), some (.int v1)], [], M, 0)) = (fun (v1 : Int32) (M : Mem) => some (.inr (.inl (some (.int (0 : Int32))), M, 0))) := by rfl
set_option maxRecDepth 100000 in
theorem b_X7_at_k8_2 : (fun (v1 : Int32) (M : Mem) => run C_X7_at 4 (4, [some (.ref 8), some (.int v1)], [], M, 0)) = (fun (v1 : Int32) (M : Mem) => some (.inl ((br (!decide (v1 < (6 : Int32))) 7 3 (9)), [some (.ref 8), some (.int v1)], [], M, 0))) := by rfl
set_option maxRecDepth 100000 in
theorem b_X7_at_k8_3 : (fun (v1 : Int32) (M : Mem) => run C_X7_at 2 (10, [some (.ref 8), some (.int v1)], [], M, 0)) = (fun (v1 : Int32) (M : Mem) => some (.inl (12, [some (.ref 8), some (.int v1)], [.int v1, .ref 8], M, 0))) := by rfl
set_option maxRecDepth 100000 in
theorem b_X7_at_k8_4 : (fun (v1 : Int32) (M : Mem) => stp C_X7_at (12, [some (.ref 8), some (.int v1)], [.int v1, .ref 8], M, 0)) = (fun (v1 : Int32) (M : Mem) => (if inb v1 6 = true then some (.inl (13, [some (.ref 8), some (.int v1)], [.int (M.1 8 (ix v1))], M, 0)) else none)) := by rfl
set_option maxRecDepth 100000 in
theorem b_X7_at_k8_5 : (fun (v1 : Int32) (M : Mem) => run C_X7_at 2 (13, [some (.ref 8), some (.int v1)], [.int (M.1 8 (ix v1))], M, 0)) = (fun (v1 : Int32) (M : Mem) => some (.inr (.inl (some (.int (M.1 8 (ix v1)))), M, 0))) := by rfl
set_option maxRecDepth 100000 in
theorem b_X7_at_k8_6 : (fun (v1 : Int32) (M : Mem) => run C_X7_at 2 (16, [some (.ref 8), some (.int v1)], [], M, 0)) = (fun (v1 : Int32) (M : Mem) => some (.inr (.inl (some (.int (0 : Int32))), M, 0))) := by rfl
set_option maxHeartbeats 2000000 in
theorem r_X7_at_k8 (v1 : Int32) (M : Mem) : RG C_X7_at (0, [some (.ref 8), some (.int v1)], [], M, 0) (some (d_X7_at 8 6 v1 M)) (fun v => .inr (.inl (some (.int v)), M)) := by
  unfold d_X7_at
  refine RG.st 2 (congrFun (congrFun b_X7_at_k8_0 v1) M) ?_
  refine RG.ites (fun h1 => RG.brT (q := 16) h1 rfl ?_) (fun h1 => RG.brF (q := 4) h1 rfl ?_)
  · exact RG.fin rfl (Rend.run 2 (congrFun (congrFun b_X7_at_k8_1 v1) M))
  · refine RG.st 4 (congrFun (congrFun b_X7_at_k8_2 v1) M) ?_
    refine RG.ites (fun h2 => RG.brNF (q := 10) h2 rfl ?_) (fun h2 => RG.brNT (q := 16) h2 rfl ?_)
    · refine RG.st 2 (congrFun (congrFun b_X7_at_k8_3 v1) M) ?_
      have h3 : (inb v1 6 = true) := inb_of h1 h2 (by decide) (by decide)
      refine RG.st 1 (stp_g h3 (congrFun (congrFun b_X7_at_k8_4 v1) M)) ?_
      exact RG.fin rfl (Rend.run 2 (congrFun (congrFun b_X7_at_k8_5 v1) M))
    · exact RG.fin rfl (Rend.run 2 (congrFun (congrFun b_X7_at_k8_6 v1) M))
set_option maxRecDepth 100000 in
theorem b_X7_at_k9_0 : (fun (v1 : Int32) (M : Mem) => run C_X7_at 2 (0, [some (.ref 9), some (.int v1)], [], M, 0)) = (fun (v1 : Int32) (M : Mem) => some (.inl ((br (decide (v1 < 0)) 1 3 (15)), [some (.ref 9), some (.int v1)], [], M, 0))) := by rfl
set_option maxRecDepth 100000 in
theorem b_X7_at_k9_1 : (fun (v1 : Int32) (M : Mem) => run C_X7_at 2 (16, [some (.ref 9), some (.int v1)], [], M, 0)) = (fun (v1 : Int32) (M : Mem) => some (.inr (.inl (some (.int (0 : Int32))), M, 0))) := by rfl
set_option maxRecDepth 100000 in
theorem b_X7_at_k9_2 : (fun (v1 : Int32) (M : Mem) => run C_X7_at 4 (4, [some (.ref 9), some (.int v1)], [], M, 0)) = (fun (v1 : Int32) (M : Mem) => some (.inl ((br (!decide (v1 < (56 : Int32))) 7 3 (9)), [some (.ref 9), some (.int v1)], [], M, 0))) := by rfl
set_option maxRecDepth 100000 in
theorem b_X7_at_k9_3 : (fun (v1 : Int32) (M : Mem) => run C_X7_at 2 (10, [some (.ref 9), some (.int v1)], [], M, 0)) = (fun (v1 : Int32) (M : Mem) => some (.inl (12, [some (.ref 9), some (.int v1)], [.int v1, .ref 9], M, 0))) := by rfl
set_option maxRecDepth 100000 in
theorem b_X7_at_k9_4 : (fun (v1 : Int32) (M : Mem) => stp C_X7_at (12, [some (.ref 9), some (.int v1)], [.int v1, .ref 9], M, 0)) = (fun (v1 : Int32) (M : Mem) => (if inb v1 56 = true then some (.inl (13, [some (.ref 9), some (.int v1)], [.int (M.1 9 (ix v1))], M, 0)) else none)) := by rfl
set_option maxRecDepth 100000 in
theorem b_X7_at_k9_5 : (fun (v1 : Int32) (M : Mem) => run C_X7_at 2 (13, [some (.ref 9), some (.int v1)], [.int (M.1 9 (ix v1))], M, 0)) = (fun (v1 : Int32) (M : Mem) => some (.inr (.inl (some (.int (M.1 9 (ix v1)))), M, 0))) := by rfl
set_option maxRecDepth 100000 in
theorem b_X7_at_k9_6 : (fun (v1 : Int32) (M : Mem) => run C_X7_at 2 (16, [some (.ref 9), some (.int v1)], [], M, 0)) = (fun (v1 : Int32) (M : Mem) => some (.inr (.inl (some (.int (0 : Int32))), M, 0))) := by rfl
set_option maxHeartbeats 2000000 in
theorem r_X7_at_k9 (v1 : Int32) (M : Mem) : RG C_X7_at (0, [some (.ref 9), some (.int v1)], [], M, 0) (some (d_X7_at 9 56 v1 M)) (fun v => .inr (.inl (some (.int v)), M)) := by
  unfold d_X7_at
  refine RG.st 2 (congrFun (congrFun b_X7_at_k9_0 v1) M) ?_
  refine RG.ites (fun h1 => RG.brT (q := 16) h1 rfl ?_) (fun h1 => RG.brF (q := 4) h1 rfl ?_)
  · exact RG.fin rfl (Rend.run 2 (congrFun (congrFun b_X7_at_k9_1 v1) M))
  · refine RG.st 4 (congrFun (congrFun b_X7_at_k9_2 v1) M) ?_
    refine RG.ites (fun h2 => RG.brNF (q := 10) h2 rfl ?_) (fun h2 => RG.brNT (q := 16) h2 rfl ?_)
    · refine RG.st 2 (congrFun (congrFun b_X7_at_k9_3 v1) M) ?_
      have h3 : (inb v1 56 = true) := inb_of h1 h2 (by decide) (by decide)
      refine RG.st 1 (stp_g h3 (congrFun (congrFun b_X7_at_k9_4 v1) M)) ?_
      exact RG.fin rfl (Rend.run 2 (congrFun (congrFun b_X7_at_k9_5 v1) M))
    · exact RG.fin rfl (Rend.run 2 (congrFun (congrFun b_X7_at_k9_6 v1) M))
set_option maxRecDepth 100000 in
theorem b_X7_at_k10_0 : (fun (v1 : Int32) (M : Mem) => run C_X7_at 2 (0, [some (.ref 10), some (.int v1)], [], M, 0)) = (fun (v1 : Int32) (M : Mem) => some (.inl ((br (decide (v1 < 0)) 1 3 (15)), [some (.ref 10), some (.int v1)], [], M, 0))) := by rfl
set_option maxRecDepth 100000 in
theorem b_X7_at_k10_1 : (fun (v1 : Int32) (M : Mem) => run C_X7_at 2 (16, [some (.ref 10), some (.int v1)], [], M, 0)) = (fun (v1 : Int32) (M : Mem) => some (.inr (.inl (some (.int (0 : Int32))), M, 0))) := by rfl
set_option maxRecDepth 100000 in
theorem b_X7_at_k10_2 : (fun (v1 : Int32) (M : Mem) => run C_X7_at 4 (4, [some (.ref 10), some (.int v1)], [], M, 0)) = (fun (v1 : Int32) (M : Mem) => some (.inl ((br (!decide (v1 < (56 : Int32))) 7 3 (9)), [some (.ref 10), some (.int v1)], [], M, 0))) := by rfl
set_option maxRecDepth 100000 in
theorem b_X7_at_k10_3 : (fun (v1 : Int32) (M : Mem) => run C_X7_at 2 (10, [some (.ref 10), some (.int v1)], [], M, 0)) = (fun (v1 : Int32) (M : Mem) => some (.inl (12, [some (.ref 10), some (.int v1)], [.int v1, .ref 10], M, 0))) := by rfl
set_option maxRecDepth 100000 in
theorem b_X7_at_k10_4 : (fun (v1 : Int32) (M : Mem) => stp C_X7_at (12, [some (.ref 10), some (.int v1)], [.int v1, .ref 10], M, 0)) = (fun (v1 : Int32) (M : Mem) => (if inb v1 56 = true then some (.inl (13, [some (.ref 10), some (.int v1)], [.int (M.1 10 (ix v1))], M, 0)) else none)) := by rfl
set_option maxRecDepth 100000 in
theorem b_X7_at_k10_5 : (fun (v1 : Int32) (M : Mem) => run C_X7_at 2 (13, [some (.ref 10), some (.int v1)], [.int (M.1 10 (ix v1))], M, 0)) = (fun (v1 : Int32) (M : Mem) => some (.inr (.inl (some (.int (M.1 10 (ix v1)))), M, 0))) := by rfl
set_option maxRecDepth 100000 in
theorem b_X7_at_k10_6 : (fun (v1 : Int32) (M : Mem) => run C_X7_at 2 (16, [some (.ref 10), some (.int v1)], [], M, 0)) = (fun (v1 : Int32) (M : Mem) => some (.inr (.inl (some (.int (0 : Int32))), M, 0))) := by rfl
set_option maxHeartbeats 2000000 in
theorem r_X7_at_k10 (v1 : Int32) (M : Mem) : RG C_X7_at (0, [some (.ref 10), some (.int v1)], [], M, 0) (some (d_X7_at 10 56 v1 M)) (fun v => .inr (.inl (some (.int v)), M)) := by
  unfold d_X7_at
  refine RG.st 2 (congrFun (congrFun b_X7_at_k10_0 v1) M) ?_
  refine RG.ites (fun h1 => RG.brT (q := 16) h1 rfl ?_) (fun h1 => RG.brF (q := 4) h1 rfl ?_)
  · exact RG.fin rfl (Rend.run 2 (congrFun (congrFun b_X7_at_k10_1 v1) M))
  · refine RG.st 4 (congrFun (congrFun b_X7_at_k10_2 v1) M) ?_
    refine RG.ites (fun h2 => RG.brNF (q := 10) h2 rfl ?_) (fun h2 => RG.brNT (q := 16) h2 rfl ?_)
    · refine RG.st 2 (congrFun (congrFun b_X7_at_k10_3 v1) M) ?_
      have h3 : (inb v1 56 = true) := inb_of h1 h2 (by decide) (by decide)
      refine RG.st 1 (stp_g h3 (congrFun (congrFun b_X7_at_k10_4 v1) M)) ?_
      exact RG.fin rfl (Rend.run 2 (congrFun (congrFun b_X7_at_k10_5 v1) M))
    · exact RG.fin rfl (Rend.run 2 (congrFun (congrFun b_X7_at_k10_6 v1) M))
set_option maxRecDepth 100000 in
theorem b_X7_at_k11_0 : (fun (v1 : Int32) (M : Mem) => run C_X7_at 2 (0, [some (.ref 11), some (.int v1)], [], M, 0)) = (fun (v1 : Int32) (M : Mem) => some (.inl ((br (decide (v1 < 0)) 1 3 (15)), [some (.ref 11), some (.int v1)], [], M, 0))) := by rfl
set_option maxRecDepth 100000 in
theorem b_X7_at_k11_1 : (fun (v1 : Int32) (M : Mem) => run C_X7_at 2 (16, [some (.ref 11), some (.int v1)], [], M, 0)) = (fun (v1 : Int32) (M : Mem) => some (.inr (.inl (some (.int (0 : Int32))), M, 0))) := by rfl
set_option maxRecDepth 100000 in
theorem b_X7_at_k11_2 : (fun (v1 : Int32) (M : Mem) => run C_X7_at 4 (4, [some (.ref 11), some (.int v1)], [], M, 0)) = (fun (v1 : Int32) (M : Mem) => some (.inl ((br (!decide (v1 < (36 : Int32))) 7 3 (9)), [some (.ref 11), some (.int v1)], [], M, 0))) := by rfl
set_option maxRecDepth 100000 in
theorem b_X7_at_k11_3 : (fun (v1 : Int32) (M : Mem) => run C_X7_at 2 (10, [some (.ref 11), some (.int v1)], [], M, 0)) = (fun (v1 : Int32) (M : Mem) => some (.inl (12, [some (.ref 11), some (.int v1)], [.int v1, .ref 11], M, 0))) := by rfl
set_option maxRecDepth 100000 in
theorem b_X7_at_k11_4 : (fun (v1 : Int32) (M : Mem) => stp C_X7_at (12, [some (.ref 11), some (.int v1)], [.int v1, .ref 11], M, 0)) = (fun (v1 : Int32) (M : Mem) => (if inb v1 36 = true then some (.inl (13, [some (.ref 11), some (.int v1)], [.int (M.1 11 (ix v1))], M, 0)) else none)) := by rfl
set_option maxRecDepth 100000 in
theorem b_X7_at_k11_5 : (fun (v1 : Int32) (M : Mem) => run C_X7_at 2 (13, [some (.ref 11), some (.int v1)], [.int (M.1 11 (ix v1))], M, 0)) = (fun (v1 : Int32) (M : Mem) => some (.inr (.inl (some (.int (M.1 11 (ix v1)))), M, 0))) := by rfl
set_option maxRecDepth 100000 in
theorem b_X7_at_k11_6 : (fun (v1 : Int32) (M : Mem) => run C_X7_at 2 (16, [some (.ref 11), some (.int v1)], [], M, 0)) = (fun (v1 : Int32) (M : Mem) => some (.inr (.inl (some (.int (0 : Int32))), M, 0))) := by rfl
set_option maxHeartbeats 2000000 in
theorem r_X7_at_k11 (v1 : Int32) (M : Mem) : RG C_X7_at (0, [some (.ref 11), some (.int v1)], [], M, 0) (some (d_X7_at 11 36 v1 M)) (fun v => .inr (.inl (some (.int v)), M)) := by
  unfold d_X7_at
  refine RG.st 2 (congrFun (congrFun b_X7_at_k11_0 v1) M) ?_
  refine RG.ites (fun h1 => RG.brT (q := 16) h1 rfl ?_) (fun h1 => RG.brF (q := 4) h1 rfl ?_)
  · exact RG.fin rfl (Rend.run 2 (congrFun (congrFun b_X7_at_k11_1 v1) M))
  · refine RG.st 4 (congrFun (congrFun b_X7_at_k11_2 v1) M) ?_
    refine RG.ites (fun h2 => RG.brNF (q := 10) h2 rfl ?_) (fun h2 => RG.brNT (q := 16) h2 rfl ?_)
    · refine RG.st 2 (congrFun (congrFun b_X7_at_k11_3 v1) M) ?_
      have h3 : (inb v1 36 = true) := inb_of h1 h2 (by decide) (by decide)
      refine RG.st 1 (stp_g h3 (congrFun (congrFun b_X7_at_k11_4 v1) M)) ?_
      exact RG.fin rfl (Rend.run 2 (congrFun (congrFun b_X7_at_k11_5 v1) M))
    · exact RG.fin rfl (Rend.run 2 (congrFun (congrFun b_X7_at_k11_6 v1) M))
set_option maxRecDepth 100000 in
theorem b_X7_at_k13_0 : (fun (v1 : Int32) (M : Mem) => run C_X7_at 2 (0, [some (.ref 13), some (.int v1)], [], M, 0)) = (fun (v1 : Int32) (M : Mem) => some (.inl ((br (decide (v1 < 0)) 1 3 (15)), [some (.ref 13), some (.int v1)], [], M, 0))) := by rfl
set_option maxRecDepth 100000 in
theorem b_X7_at_k13_1 : (fun (v1 : Int32) (M : Mem) => run C_X7_at 2 (16, [some (.ref 13), some (.int v1)], [], M, 0)) = (fun (v1 : Int32) (M : Mem) => some (.inr (.inl (some (.int (0 : Int32))), M, 0))) := by rfl
set_option maxRecDepth 100000 in
theorem b_X7_at_k13_2 : (fun (v1 : Int32) (M : Mem) => run C_X7_at 4 (4, [some (.ref 13), some (.int v1)], [], M, 0)) = (fun (v1 : Int32) (M : Mem) => some (.inl ((br (!decide (v1 < (1024 : Int32))) 7 3 (9)), [some (.ref 13), some (.int v1)], [], M, 0))) := by rfl
set_option maxRecDepth 100000 in
theorem b_X7_at_k13_3 : (fun (v1 : Int32) (M : Mem) => run C_X7_at 2 (10, [some (.ref 13), some (.int v1)], [], M, 0)) = (fun (v1 : Int32) (M : Mem) => some (.inl (12, [some (.ref 13), some (.int v1)], [.int v1, .ref 13], M, 0))) := by rfl
set_option maxRecDepth 100000 in
theorem b_X7_at_k13_4 : (fun (v1 : Int32) (M : Mem) => stp C_X7_at (12, [some (.ref 13), some (.int v1)], [.int v1, .ref 13], M, 0)) = (fun (v1 : Int32) (M : Mem) => (if inb v1 1024 = true then some (.inl (13, [some (.ref 13), some (.int v1)], [.int (M.1 13 (ix v1))], M, 0)) else none)) := by rfl
set_option maxRecDepth 100000 in
theorem b_X7_at_k13_5 : (fun (v1 : Int32) (M : Mem) => run C_X7_at 2 (13, [some (.ref 13), some (.int v1)], [.int (M.1 13 (ix v1))], M, 0)) = (fun (v1 : Int32) (M : Mem) => some (.inr (.inl (some (.int (M.1 13 (ix v1)))), M, 0))) := by rfl
set_option maxRecDepth 100000 in
theorem b_X7_at_k13_6 : (fun (v1 : Int32) (M : Mem) => run C_X7_at 2 (16, [some (.ref 13), some (.int v1)], [], M, 0)) = (fun (v1 : Int32) (M : Mem) => some (.inr (.inl (some (.int (0 : Int32))), M, 0))) := by rfl
set_option maxHeartbeats 2000000 in
theorem r_X7_at_k13 (v1 : Int32) (M : Mem) : RG C_X7_at (0, [some (.ref 13), some (.int v1)], [], M, 0) (some (d_X7_at 13 1024 v1 M)) (fun v => .inr (.inl (some (.int v)), M)) := by
  unfold d_X7_at
  refine RG.st 2 (congrFun (congrFun b_X7_at_k13_0 v1) M) ?_
  refine RG.ites (fun h1 => RG.brT (q := 16) h1 rfl ?_) (fun h1 => RG.brF (q := 4) h1 rfl ?_)
  · exact RG.fin rfl (Rend.run 2 (congrFun (congrFun b_X7_at_k13_1 v1) M))
  · refine RG.st 4 (congrFun (congrFun b_X7_at_k13_2 v1) M) ?_
    refine RG.ites (fun h2 => RG.brNF (q := 10) h2 rfl ?_) (fun h2 => RG.brNT (q := 16) h2 rfl ?_)
    · refine RG.st 2 (congrFun (congrFun b_X7_at_k13_3 v1) M) ?_
      have h3 : (inb v1 1024 = true) := inb_of h1 h2 (by decide) (by decide)
      refine RG.st 1 (stp_g h3 (congrFun (congrFun b_X7_at_k13_4 v1) M)) ?_
      exact RG.fin rfl (Rend.run 2 (congrFun (congrFun b_X7_at_k13_5 v1) M))
    · exact RG.fin rfl (Rend.run 2 (congrFun (congrFun b_X7_at_k13_6 v1) M))
set_option maxRecDepth 100000 in
theorem b_X7_at_k15_0 : (fun (v1 : Int32) (M : Mem) => run C_X7_at 2 (0, [some (.ref 15), some (.int v1)], [], M, 0)) = (fun (v1 : Int32) (M : Mem) => some (.inl ((br (decide (v1 < 0)) 1 3 (15)), [some (.ref 15), some (.int v1)], [], M, 0))) := by rfl
set_option maxRecDepth 100000 in
theorem b_X7_at_k15_1 : (fun (v1 : Int32) (M : Mem) => run C_X7_at 2 (16, [some (.ref 15), some (.int v1)], [], M, 0)) = (fun (v1 : Int32) (M : Mem) => some (.inr (.inl (some (.int (0 : Int32))), M, 0))) := by rfl
set_option maxRecDepth 100000 in
theorem b_X7_at_k15_2 : (fun (v1 : Int32) (M : Mem) => run C_X7_at 4 (4, [some (.ref 15), some (.int v1)], [], M, 0)) = (fun (v1 : Int32) (M : Mem) => some (.inl ((br (!decide (v1 < (12 : Int32))) 7 3 (9)), [some (.ref 15), some (.int v1)], [], M, 0))) := by rfl
set_option maxRecDepth 100000 in
theorem b_X7_at_k15_3 : (fun (v1 : Int32) (M : Mem) => run C_X7_at 2 (10, [some (.ref 15), some (.int v1)], [], M, 0)) = (fun (v1 : Int32) (M : Mem) => some (.inl (12, [some (.ref 15), some (.int v1)], [.int v1, .ref 15], M, 0))) := by rfl
set_option maxRecDepth 100000 in
theorem b_X7_at_k15_4 : (fun (v1 : Int32) (M : Mem) => stp C_X7_at (12, [some (.ref 15), some (.int v1)], [.int v1, .ref 15], M, 0)) = (fun (v1 : Int32) (M : Mem) => (if inb v1 12 = true then some (.inl (13, [some (.ref 15), some (.int v1)], [.int (M.1 15 (ix v1))], M, 0)) else none)) := by rfl
set_option maxRecDepth 100000 in
theorem b_X7_at_k15_5 : (fun (v1 : Int32) (M : Mem) => run C_X7_at 2 (13, [some (.ref 15), some (.int v1)], [.int (M.1 15 (ix v1))], M, 0)) = (fun (v1 : Int32) (M : Mem) => some (.inr (.inl (some (.int (M.1 15 (ix v1)))), M, 0))) := by rfl
set_option maxRecDepth 100000 in
theorem b_X7_at_k15_6 : (fun (v1 : Int32) (M : Mem) => run C_X7_at 2 (16, [some (.ref 15), some (.int v1)], [], M, 0)) = (fun (v1 : Int32) (M : Mem) => some (.inr (.inl (some (.int (0 : Int32))), M, 0))) := by rfl
set_option maxHeartbeats 2000000 in
theorem r_X7_at_k15 (v1 : Int32) (M : Mem) : RG C_X7_at (0, [some (.ref 15), some (.int v1)], [], M, 0) (some (d_X7_at 15 12 v1 M)) (fun v => .inr (.inl (some (.int v)), M)) := by
  unfold d_X7_at
  refine RG.st 2 (congrFun (congrFun b_X7_at_k15_0 v1) M) ?_
  refine RG.ites (fun h1 => RG.brT (q := 16) h1 rfl ?_) (fun h1 => RG.brF (q := 4) h1 rfl ?_)
  · exact RG.fin rfl (Rend.run 2 (congrFun (congrFun b_X7_at_k15_1 v1) M))
  · refine RG.st 4 (congrFun (congrFun b_X7_at_k15_2 v1) M) ?_
    refine RG.ites (fun h2 => RG.brNF (q := 10) h2 rfl ?_) (fun h2 => RG.brNT (q := 16) h2 rfl ?_)
    · refine RG.st 2 (congrFun (congrFun b_X7_at_k15_3 v1) M) ?_
      have h3 : (inb v1 12 = true) := inb_of h1 h2 (by decide) (by decide)
      refine RG.st 1 (stp_g h3 (congrFun (congrFun b_X7_at_k15_4 v1) M)) ?_
      exact RG.fin rfl (Rend.run 2 (congrFun (congrFun b_X7_at_k15_5 v1) M))
    · exact RG.fin rfl (Rend.run 2 (congrFun (congrFun b_X7_at_k15_6 v1) M))
set_option maxRecDepth 100000 in
theorem b_X7_at_k16_0 : (fun (v1 : Int32) (M : Mem) => run C_X7_at 2 (0, [some (.ref 16), some (.int v1)], [], M, 0)) = (fun (v1 : Int32) (M : Mem) => some (.inl ((br (decide (v1 < 0)) 1 3 (15)), [some (.ref 16), some (.int v1)], [], M, 0))) := by rfl
set_option maxRecDepth 100000 in
theorem b_X7_at_k16_1 : (fun (v1 : Int32) (M : Mem) => run C_X7_at 2 (16, [some (.ref 16), some (.int v1)], [], M, 0)) = (fun (v1 : Int32) (M : Mem) => some (.inr (.inl (some (.int (0 : Int32))), M, 0))) := by rfl
set_option maxRecDepth 100000 in
theorem b_X7_at_k16_2 : (fun (v1 : Int32) (M : Mem) => run C_X7_at 4 (4, [some (.ref 16), some (.int v1)], [], M, 0)) = (fun (v1 : Int32) (M : Mem) => some (.inl ((br (!decide (v1 < (4096 : Int32))) 7 3 (9)), [some (.ref 16), some (.int v1)], [], M, 0))) := by rfl
set_option maxRecDepth 100000 in
theorem b_X7_at_k16_3 : (fun (v1 : Int32) (M : Mem) => run C_X7_at 2 (10, [some (.ref 16), some (.int v1)], [], M, 0)) = (fun (v1 : Int32) (M : Mem) => some (.inl (12, [some (.ref 16), some (.int v1)], [.int v1, .ref 16], M, 0))) := by rfl
set_option maxRecDepth 100000 in
theorem b_X7_at_k16_4 : (fun (v1 : Int32) (M : Mem) => stp C_X7_at (12, [some (.ref 16), some (.int v1)], [.int v1, .ref 16], M, 0)) = (fun (v1 : Int32) (M : Mem) => (if inb v1 4096 = true then some (.inl (13, [some (.ref 16), some (.int v1)], [.int (M.1 16 (ix v1))], M, 0)) else none)) := by rfl
set_option maxRecDepth 100000 in
theorem b_X7_at_k16_5 : (fun (v1 : Int32) (M : Mem) => run C_X7_at 2 (13, [some (.ref 16), some (.int v1)], [.int (M.1 16 (ix v1))], M, 0)) = (fun (v1 : Int32) (M : Mem) => some (.inr (.inl (some (.int (M.1 16 (ix v1)))), M, 0))) := by rfl
set_option maxRecDepth 100000 in
theorem b_X7_at_k16_6 : (fun (v1 : Int32) (M : Mem) => run C_X7_at 2 (16, [some (.ref 16), some (.int v1)], [], M, 0)) = (fun (v1 : Int32) (M : Mem) => some (.inr (.inl (some (.int (0 : Int32))), M, 0))) := by rfl
set_option maxHeartbeats 2000000 in
theorem r_X7_at_k16 (v1 : Int32) (M : Mem) : RG C_X7_at (0, [some (.ref 16), some (.int v1)], [], M, 0) (some (d_X7_at 16 4096 v1 M)) (fun v => .inr (.inl (some (.int v)), M)) := by
  unfold d_X7_at
  refine RG.st 2 (congrFun (congrFun b_X7_at_k16_0 v1) M) ?_
  refine RG.ites (fun h1 => RG.brT (q := 16) h1 rfl ?_) (fun h1 => RG.brF (q := 4) h1 rfl ?_)
  · exact RG.fin rfl (Rend.run 2 (congrFun (congrFun b_X7_at_k16_1 v1) M))
  · refine RG.st 4 (congrFun (congrFun b_X7_at_k16_2 v1) M) ?_
    refine RG.ites (fun h2 => RG.brNF (q := 10) h2 rfl ?_) (fun h2 => RG.brNT (q := 16) h2 rfl ?_)
    · refine RG.st 2 (congrFun (congrFun b_X7_at_k16_3 v1) M) ?_
      have h3 : (inb v1 4096 = true) := inb_of h1 h2 (by decide) (by decide)
      refine RG.st 1 (stp_g h3 (congrFun (congrFun b_X7_at_k16_4 v1) M)) ?_
      exact RG.fin rfl (Rend.run 2 (congrFun (congrFun b_X7_at_k16_5 v1) M))
    · exact RG.fin rfl (Rend.run 2 (congrFun (congrFun b_X7_at_k16_6 v1) M))
set_option maxRecDepth 100000 in
theorem b_X7_at_k18_0 : (fun (v1 : Int32) (M : Mem) => run C_X7_at 2 (0, [some (.ref 18), some (.int v1)], [], M, 0)) = (fun (v1 : Int32) (M : Mem) => some (.inl ((br (decide (v1 < 0)) 1 3 (15)), [some (.ref 18), some (.int v1)], [], M, 0))) := by rfl
set_option maxRecDepth 100000 in
theorem b_X7_at_k18_1 : (fun (v1 : Int32) (M : Mem) => run C_X7_at 2 (16, [some (.ref 18), some (.int v1)], [], M, 0)) = (fun (v1 : Int32) (M : Mem) => some (.inr (.inl (some (.int (0 : Int32))), M, 0))) := by rfl
set_option maxRecDepth 100000 in
theorem b_X7_at_k18_2 : (fun (v1 : Int32) (M : Mem) => run C_X7_at 4 (4, [some (.ref 18), some (.int v1)], [], M, 0)) = (fun (v1 : Int32) (M : Mem) => some (.inl ((br (!decide (v1 < (36 : Int32))) 7 3 (9)), [some (.ref 18), some (.int v1)], [], M, 0))) := by rfl
set_option maxRecDepth 100000 in
theorem b_X7_at_k18_3 : (fun (v1 : Int32) (M : Mem) => run C_X7_at 2 (10, [some (.ref 18), some (.int v1)], [], M, 0)) = (fun (v1 : Int32) (M : Mem) => some (.inl (12, [some (.ref 18), some (.int v1)], [.int v1, .ref 18], M, 0))) := by rfl
set_option maxRecDepth 100000 in
theorem b_X7_at_k18_4 : (fun (v1 : Int32) (M : Mem) => stp C_X7_at (12, [some (.ref 18), some (.int v1)], [.int v1, .ref 18], M, 0)) = (fun (v1 : Int32) (M : Mem) => (if inb v1 36 = true then some (.inl (13, [some (.ref 18), some (.int v1)], [.int (M.1 18 (ix v1))], M, 0)) else none)) := by rfl
set_option maxRecDepth 100000 in
theorem b_X7_at_k18_5 : (fun (v1 : Int32) (M : Mem) => run C_X7_at 2 (13, [some (.ref 18), some (.int v1)], [.int (M.1 18 (ix v1))], M, 0)) = (fun (v1 : Int32) (M : Mem) => some (.inr (.inl (some (.int (M.1 18 (ix v1)))), M, 0))) := by rfl
set_option maxRecDepth 100000 in
theorem b_X7_at_k18_6 : (fun (v1 : Int32) (M : Mem) => run C_X7_at 2 (16, [some (.ref 18), some (.int v1)], [], M, 0)) = (fun (v1 : Int32) (M : Mem) => some (.inr (.inl (some (.int (0 : Int32))), M, 0))) := by rfl
set_option maxHeartbeats 2000000 in
theorem r_X7_at_k18 (v1 : Int32) (M : Mem) : RG C_X7_at (0, [some (.ref 18), some (.int v1)], [], M, 0) (some (d_X7_at 18 36 v1 M)) (fun v => .inr (.inl (some (.int v)), M)) := by
  unfold d_X7_at
  refine RG.st 2 (congrFun (congrFun b_X7_at_k18_0 v1) M) ?_
  refine RG.ites (fun h1 => RG.brT (q := 16) h1 rfl ?_) (fun h1 => RG.brF (q := 4) h1 rfl ?_)
  · exact RG.fin rfl (Rend.run 2 (congrFun (congrFun b_X7_at_k18_1 v1) M))
  · refine RG.st 4 (congrFun (congrFun b_X7_at_k18_2 v1) M) ?_
    refine RG.ites (fun h2 => RG.brNF (q := 10) h2 rfl ?_) (fun h2 => RG.brNT (q := 16) h2 rfl ?_)
    · refine RG.st 2 (congrFun (congrFun b_X7_at_k18_3 v1) M) ?_
      have h3 : (inb v1 36 = true) := inb_of h1 h2 (by decide) (by decide)
      refine RG.st 1 (stp_g h3 (congrFun (congrFun b_X7_at_k18_4 v1) M)) ?_
      exact RG.fin rfl (Rend.run 2 (congrFun (congrFun b_X7_at_k18_5 v1) M))
    · exact RG.fin rfl (Rend.run 2 (congrFun (congrFun b_X7_at_k18_6 v1) M))
def fn_X7_at : Fn := fun av M => match av with
  | [.ref r0, .int v1] => bif Nat.beq r0 3 then some (.inl (some (.int (d_X7_at 3 36 v1 M))), M) else (bif Nat.beq r0 5 then some (.inl (some (.int (d_X7_at 5 6 v1 M))), M) else (bif Nat.beq r0 6 then some (.inl (some (.int (d_X7_at 6 6 v1 M))), M) else (bif Nat.beq r0 7 then some (.inl (some (.int (d_X7_at 7 6 v1 M))), M) else (bif Nat.beq r0 8 then some (.inl (some (.int (d_X7_at 8 6 v1 M))), M) else (bif Nat.beq r0 9 then some (.inl (some (.int (d_X7_at 9 56 v1 M))), M) else (bif Nat.beq r0 10 then some (.inl (some (.int (d_X7_at 10 56 v1 M))), M) else (bif Nat.beq r0 11 then some (.inl (some (.int (d_X7_at 11 36 v1 M))), M) else (bif Nat.beq r0 13 then some (.inl (some (.int (d_X7_at 13 1024 v1 M))), M) else (bif Nat.beq r0 15 then some (.inl (some (.int (d_X7_at 15 12 v1 M))), M) else (bif Nat.beq r0 16 then some (.inl (some (.int (d_X7_at 16 4096 v1 M))), M) else (bif Nat.beq r0 18 then some (.inl (some (.int (d_X7_at 18 36 v1 M))), M) else (none))))))))))))
  | _ => none
theorem cfg_X7_at : CfgOK RX7 cX7_at (C_X7_at) 1 := ⟨tk_X7_at, csF_nd, flk_X7, (fun e h => absurd h List.not_mem_nil), ink_X7, lgk_X7, fun e h => absurd h List.not_mem_nil, (fun h hh => absurd hh List.not_mem_nil)⟩
theorem ok_X7_at : OkM csF yX7_at (Cond.code yX7_at cX7_at 2 (some .int)) 1 0 fn_X7_at :=
  OkM_of (own := RX7) (C := C_X7_at) (by decide +kernel) rfl (cfg_X7_at) rfl rfl rfl rfl (by
    intro av M o M' h
    unfold fn_X7_at at h
    split at h
    · rename_i r0 v1
      rcases bif_cs h with ⟨hb, h⟩ | ⟨-, h⟩
      · skip
        have hr0 := hb
        obtain rfl := Nat.eq_of_beq_eq_true hr0
        cases h
        exact ⟨rfl, Nat.le_of_ble_eq_true rfl, (r_X7_at_k3 v1 M) _ rfl⟩
      · rcases bif_cs h with ⟨hb, h⟩ | ⟨-, h⟩
        · skip
          have hr0 := hb
          obtain rfl := Nat.eq_of_beq_eq_true hr0
          cases h
          exact ⟨rfl, Nat.le_of_ble_eq_true rfl, (r_X7_at_k5 v1 M) _ rfl⟩
        · rcases bif_cs h with ⟨hb, h⟩ | ⟨-, h⟩
          · skip
            have hr0 := hb
            obtain rfl := Nat.eq_of_beq_eq_true hr0
            cases h
            exact ⟨rfl, Nat.le_of_ble_eq_true rfl, (r_X7_at_k6 v1 M) _ rfl⟩
          · rcases bif_cs h with ⟨hb, h⟩ | ⟨-, h⟩
            · skip
              have hr0 := hb
              obtain rfl := Nat.eq_of_beq_eq_true hr0
              cases h
              exact ⟨rfl, Nat.le_of_ble_eq_true rfl, (r_X7_at_k7 v1 M) _ rfl⟩
            · rcases bif_cs h with ⟨hb, h⟩ | ⟨-, h⟩
              · skip
                have hr0 := hb
                obtain rfl := Nat.eq_of_beq_eq_true hr0
                cases h
                exact ⟨rfl, Nat.le_of_ble_eq_true rfl, (r_X7_at_k8 v1 M) _ rfl⟩
              · rcases bif_cs h with ⟨hb, h⟩ | ⟨-, h⟩
                · skip
                  have hr0 := hb
                  obtain rfl := Nat.eq_of_beq_eq_true hr0
                  cases h
                  exact ⟨rfl, Nat.le_of_ble_eq_true rfl, (r_X7_at_k9 v1 M) _ rfl⟩
                · rcases bif_cs h with ⟨hb, h⟩ | ⟨-, h⟩
                  · skip
                    have hr0 := hb
                    obtain rfl := Nat.eq_of_beq_eq_true hr0
                    cases h
                    exact ⟨rfl, Nat.le_of_ble_eq_true rfl, (r_X7_at_k10 v1 M) _ rfl⟩
                  · rcases bif_cs h with ⟨hb, h⟩ | ⟨-, h⟩
                    · skip
                      have hr0 := hb
                      obtain rfl := Nat.eq_of_beq_eq_true hr0
                      cases h
                      exact ⟨rfl, Nat.le_of_ble_eq_true rfl, (r_X7_at_k11 v1 M) _ rfl⟩
                    · rcases bif_cs h with ⟨hb, h⟩ | ⟨-, h⟩
                      · skip
                        have hr0 := hb
                        obtain rfl := Nat.eq_of_beq_eq_true hr0
                        cases h
                        exact ⟨rfl, Nat.le_of_ble_eq_true rfl, (r_X7_at_k13 v1 M) _ rfl⟩
                      · rcases bif_cs h with ⟨hb, h⟩ | ⟨-, h⟩
                        · skip
                          have hr0 := hb
                          obtain rfl := Nat.eq_of_beq_eq_true hr0
                          cases h
                          exact ⟨rfl, Nat.le_of_ble_eq_true rfl, (r_X7_at_k15 v1 M) _ rfl⟩
                        · rcases bif_cs h with ⟨hb, h⟩ | ⟨-, h⟩
                          · skip
                            have hr0 := hb
                            obtain rfl := Nat.eq_of_beq_eq_true hr0
                            cases h
                            exact ⟨rfl, Nat.le_of_ble_eq_true rfl, (r_X7_at_k16 v1 M) _ rfl⟩
                          · rcases bif_cs h with ⟨hb, h⟩ | ⟨-, h⟩
                            · skip
                              have hr0 := hb
                              obtain rfl := Nat.eq_of_beq_eq_true hr0
                              cases h
                              exact ⟨rfl, Nat.le_of_ble_eq_true rfl, (r_X7_at_k18 v1 M) _ rfl⟩
                            · cases h
    · cases h)
