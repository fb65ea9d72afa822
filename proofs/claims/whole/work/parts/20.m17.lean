/-! methods: X8_stabilizer, X8_excess, X8_differences, X8_slack, X8_cover -/
def t_X8_stabilizer : List (Nat × Instr × Nat) := [(0, .aload_n 0, 1), (1, .aload_n 0, 1), (2, .iload_n 1, 1), (3, .invokevirtual 96, 3), (6, .ifCond .eq 7, 3), (9, .iconst 0, 1), (10, .goto 4, 3), (13, .iconst 1, 1), (14, .putfield 46, 3), (17, .aload_n 0, 1), (18, .getfield 46, 3), (21, .ifCond .le 7, 3), (24, .lconst 0, 1), (25, .goto 13, 3), (28, .aload_n 0, 1), (29, .aload_n 0, 1), (30, .getfield 16, 3), (33, .iload_n 1, 1), (34, .laload, 1), (35, .invokevirtual 111, 3), (38, .lreturn, 1)]
theorem tk_X8_stabilizer : ∀ x ∈ t_X8_stabilizer, decode cX8_stabilizer x.1 = .ok x.2 := by decide +kernel
def C_X8_stabilizer : Cfg := (t_X8_stabilizer, csF, fl_X8, [(96, 2, 6, 2, 0, fn_X8_isSet), (111, 2, 6, 2, 0, fn_X8_stabilizerOf)], in_X8, lg_X8, [], [], none, (some .long), 0)
set_option maxRecDepth 100000 in
theorem b_X8_stabilizer_0 : (fun (v1 : Int32) (M : Mem) => run C_X8_stabilizer 5 (0, [some (.ref 19), some (.int v1)], [], M, 0)) = (fun (v1 : Int32) (M : Mem) => some (.inl ((br (decide ((d_X8_isSet v1 M) = 0)) 6 3 (7)), [some (.ref 19), some (.int v1)], [.ref 19], M, 0))) := by rfl
set_option maxRecDepth 100000 in
theorem b_X8_stabilizer_1 : (fun (v1 : Int32) (M : Mem) => run C_X8_stabilizer 1 (13, [some (.ref 19), some (.int v1)], [.ref 19], M, 0)) = (fun (v1 : Int32) (M : Mem) => some (.inl (14, [some (.ref 19), some (.int v1)], [.int (1 : Int32), .ref 19], M, 0))) := by rfl
set_option maxRecDepth 100000 in
theorem b_X8_stabilizer_2 : (fun (v1 : Int32) (M : Mem) => run C_X8_stabilizer 2 (9, [some (.ref 19), some (.int v1)], [.ref 19], M, 0)) = (fun (v1 : Int32) (M : Mem) => some (.inl (14, [some (.ref 19), some (.int v1)], [.int (0 : Int32), .ref 19], M, 0))) := by rfl
theorem m_X8_stabilizer_0 (v1 : Int32) (M : Mem) : Rto C_X8_stabilizer (0, [some (.ref 19), some (.int v1)], [], M, 0) (14, [some (.ref 19), some (.int v1)], [.int (if (d_X8_isSet v1 M) = 0 then (1 : Int32) else (0 : Int32)), .ref 19], M, 0) := by
  refine Rto.trans (Rto.run 5 (congrFun (congrFun b_X8_stabilizer_0 v1) M)) ?_
  by_cases h : (d_X8_isSet v1 M) = 0
  · refine Rto.trans (Rto.brT (q := 13) h rfl) ?_
    refine Rto.trans (Rto.run 1 (congrFun (congrFun b_X8_stabilizer_1 v1) M)) ?_
    exact Rto.eq (by first | (simp only [if_pos h]; done) | rfl | exact absurd rfl h | (simp; done))
  · refine Rto.trans (Rto.brF (q := 9) h rfl) ?_
    refine Rto.trans (Rto.run 2 (congrFun (congrFun b_X8_stabilizer_2 v1) M)) ?_
    exact Rto.eq (by first | (simp only [if_neg h]; done) | rfl | exact absurd rfl h | (simp; done))
set_option maxRecDepth 100000 in
theorem b_X8_stabilizer_3 : (fun (v1 : Int32) (M : Mem) => run C_X8_stabilizer 4 (14, [some (.ref 19), some (.int v1)], [.int (if (d_X8_isSet v1 M) = 0 then (1 : Int32) else (0 : Int32)), .ref 19], M, 0)) = (fun (v1 : Int32) (M : Mem) => some (.inl ((br (decide ((if (d_X8_isSet v1 M) = 0 then (1 : Int32) else (0 : Int32)) ≤ 0)) 21 3 (7)), [some (.ref 19), some (.int v1)], [], (sI M 19 15 (if (d_X8_isSet v1 M) = 0 then (1 : Int32) else (0 : Int32))), 0))) := by rfl
set_option maxRecDepth 100000 in
theorem b_X8_stabilizer_4 : (fun (v1 : Int32) (M : Mem) => run C_X8_stabilizer 4 (28, [some (.ref 19), some (.int v1)], [], (sI M 19 15 (if (d_X8_isSet v1 M) = 0 then (1 : Int32) else (0 : Int32))), 0)) = (fun (v1 : Int32) (M : Mem) => some (.inl (34, [some (.ref 19), some (.int v1)], [.int v1, .ref 20, .ref 19], (sI M 19 15 (if (d_X8_isSet v1 M) = 0 then (1 : Int32) else (0 : Int32))), 0))) := by rfl
set_option maxRecDepth 100000 in
theorem b_X8_stabilizer_5 : (fun (v1 : Int32) (M : Mem) => stp C_X8_stabilizer (34, [some (.ref 19), some (.int v1)], [.int v1, .ref 20, .ref 19], (sI M 19 15 (if (d_X8_isSet v1 M) = 0 then (1 : Int32) else (0 : Int32))), 0)) = (fun (v1 : Int32) (M : Mem) => (if inb v1 30 = true then some (.inl (35, [some (.ref 19), some (.int v1)], [.long (M.2 20 (ix v1)), .ref 19], (sI M 19 15 (if (d_X8_isSet v1 M) = 0 then (1 : Int32) else (0 : Int32))), 0)) else none)) := by rfl
set_option maxRecDepth 100000 in
theorem b_X8_stabilizer_6 : (fun (v1 : Int32) (M : Mem) (w1 : Int64) => run C_X8_stabilizer 1 (38, [some (.ref 19), some (.int v1)], [.long w1], (sI M 19 15 (if (d_X8_isSet v1 M) = 0 then (1 : Int32) else (0 : Int32))), 0)) = (fun (v1 : Int32) (M : Mem) (w1 : Int64) => some (.inr (.inl (some (.long w1)), (sI M 19 15 (if (d_X8_isSet v1 M) = 0 then (1 : Int32) else (0 : Int32))), 0))) := by rfl
set_option maxRecDepth 100000 in
theorem b_X8_stabilizer_7 : (fun (v1 : Int32) (M : Mem) => run C_X8_stabilizer 3 (24, [some (.ref 19), some (.int v1)], [], (sI M 19 15 (if (d_X8_isSet v1 M) = 0 then (1 : Int32) else (0 : Int32))), 0)) = (fun (v1 : Int32) (M : Mem) => some (.inr (.inl (some (.long (0 : Int64))), (sI M 19 15 (if (d_X8_isSet v1 M) = 0 then (1 : Int32) else (0 : Int32))), 0))) := by rfl
def d_X8_stabilizer (v1 : Int32) (M : Mem) : Option (Res × Mem) := (if (if (d_X8_isSet v1 M) = 0 then (1 : Int32) else (0 : Int32)) ≤ 0 then (if inb v1 30 = true then ((d_X8_stabilizerOf (M.2 20 (ix v1)) (sI M 19 15 (if (d_X8_isSet v1 M) = 0 then (1 : Int32) else (0 : Int32)))).bind fun w1 => some (.inl (some (.long w1)), (sI M 19 15 (if (d_X8_isSet v1 M) = 0 then (1 : Int32) else (0 : Int32))))) else none) else some (.inl (some (.long (0 : Int64))), (sI M 19 15 (if (d_X8_isSet v1 M) = 0 then (1 : Int32) else (0 : Int32)))))
set_option maxHeartbeats 2000000 in
theorem r_X8_stabilizer (v1 : Int32) (M : Mem) : RG C_X8_stabilizer (0, [some (.ref 19), some (.int v1)], [], M, 0) (d_X8_stabilizer v1 M) (fun r => .inr r) := by
  unfold d_X8_stabilizer
  refine RG.step (m_X8_stabilizer_0 v1 M) ?_
  refine RG.st 4 (congrFun (congrFun b_X8_stabilizer_3 v1) M) ?_
  refine RG.ite (fun h1 => RG.brT (q := 28) h1 rfl ?_) (fun h1 => RG.brF (q := 24) h1 rfl ?_)
  · refine RG.st 4 (congrFun (congrFun b_X8_stabilizer_4 v1) M) ?_
    refine RG.guard (fun h2 => RG.st 1 (stp_g h2 (congrFun (congrFun b_X8_stabilizer_5 v1) M)) ?_)
    refine RG.bind (fun w1 h3 => RG.st 1 (run_callV (v := some (.long w1)) rfl rfl rfl rfl rfl (bindL h3)) ?_)
    show RG C_X8_stabilizer (38, [some (.ref 19), some (.int v1)], [.long w1], (sI M 19 15 (if (d_X8_isSet v1 M) = 0 then (1 : Int32) else (0 : Int32))), 0) _ _
    exact RG.fin rfl (Rend.run 1 (congrFun (congrFun (congrFun b_X8_stabilizer_6 v1) M) w1))
  · exact RG.fin rfl (Rend.run 3 (congrFun (congrFun b_X8_stabilizer_7 v1) M))
def fn_X8_stabilizer : Fn := fun av M => match av with
  | [.ref r0, .int v1] => bif Nat.beq r0 19 then (d_X8_stabilizer v1 M) else (none)
  | _ => none
theorem cfg_X8_stabilizer : CfgOK RX8 cX8_stabilizer (C_X8_stabilizer) 6 := ⟨tk_X8_stabilizer, csF_nd, flk_X8, (List.forall_mem_cons.mpr ⟨Or.inr ⟨yX8_isSet, cX8_isSet, 2, (some .boolean), none, 2, ok_X8_isSet, by decide, by decide, w_code_SumsetryModel_isSet__I_Z, w_initialized_SumsetryModel, ⟨by decide, by decide⟩, Or.inr (Or.inr ⟨rfl, rfl, show (parseMethodDescriptor yX8_isSet.desc).map (fun d => d.parameters.length + 1) = some 2 from by decide +kernel, w_methodLink_SumsetryModel_96, w_instanceMethod_SumsetryModel_isSet__I_Z, w_selects_SumsetryModel_isSet__I_Z, ⟨_, rfl, rfl⟩⟩)⟩,
    List.forall_mem_cons.mpr ⟨Or.inr ⟨yX8_stabilizerOf, cX8_stabilizerOf, 6, (some .long), none, 5, ok_X8_stabilizerOf, by decide, by decide, w_code_SumsetryModel_stabilizerOf__J_J, w_initialized_SumsetryModel, ⟨by decide, by decide⟩, Or.inr (Or.inr ⟨rfl, rfl, show (parseMethodDescriptor yX8_stabilizerOf.desc).map (fun d => d.parameters.length + 1) = some 2 from by decide +kernel, w_methodLink_SumsetryModel_111, w_instanceMethod_SumsetryModel_stabilizerOf__J_J, w_selects_SumsetryModel_stabilizerOf__J_J, ⟨_, rfl, rfl⟩⟩)⟩, fun _ h => absurd h List.not_mem_nil⟩⟩), ink_X8, lgk_X8, fun e h => absurd h List.not_mem_nil, (fun h hh => absurd hh List.not_mem_nil)⟩
theorem ok_X8_stabilizer : OkM csF yX8_stabilizer (Cond.code yX8_stabilizer cX8_stabilizer 2 (some .long)) 6 0 fn_X8_stabilizer :=
  OkM_of (own := RX8) (C := C_X8_stabilizer) (by decide +kernel) rfl (cfg_X8_stabilizer) rfl rfl rfl rfl (by
    intro av M o M' h
    unfold fn_X8_stabilizer at h
    split at h
    · rename_i r0 v1
      rcases bif_cs h with ⟨hb, h⟩ | ⟨-, h⟩
      · skip
        have hr0 := hb
        obtain rfl := Nat.eq_of_beq_eq_true hr0
        exact ⟨rfl, Nat.le_of_ble_eq_true rfl, (r_X8_stabilizer v1 M) (o, M') h⟩
      · cases h
    · cases h)
def t_X8_excess : List (Nat × Instr × Nat) := [(0, .aload_n 0, 1), (1, .iload_n 1, 1), (2, .iload_n 2, 1), (3, .invokevirtual 107, 3), (6, .ifCond .ne 5, 3), (9, .iconst 0, 1), (10, .ireturn, 1), (11, .aload_n 0, 1), (12, .aload_n 0, 1), (13, .getfield 16, 3), (16, .iload_n 1, 1), (17, .laload, 1), (18, .aload_n 0, 1), (19, .getfield 16, 3), (22, .iload_n 2, 1), (23, .laload, 1), (24, .invokevirtual 99, 3), (27, .lstore_n 3, 1), (28, .aload_n 0, 1), (29, .lload_n 3, 1), (30, .invokevirtual 111, 3), (33, .lstore 5, 2), (35, .lload_n 3, 1), (36, .invokestatic 115, 3), (39, .aload_n 0, 1), (40, .aload_n 0, 1), (41, .getfield 16, 3), (44, .iload_n 1, 1), (45, .laload, 1), (46, .lload 5, 2), (48, .invokevirtual 99, 3), (51, .invokestatic 115, 3), (54, .isub, 1), (55, .aload_n 0, 1), (56, .aload_n 0, 1), (57, .getfield 16, 3), (60, .iload_n 2, 1), (61, .laload, 1), (62, .lload 5, 2), (64, .invokevirtual 99, 3), (67, .invokestatic 115, 3), (70, .isub, 1), (71, .lload 5, 2), (73, .invokestatic 115, 3), (76, .iadd, 1), (77, .ireturn, 1)]
theorem tk_X8_excess : ∀ x ∈ t_X8_excess, decode cX8_excess x.1 = .ok x.2 := by decide +kernel
def C_X8_excess : Cfg := (t_X8_excess, csF, fl_X8, [(99, 2, 6, 3, 0, fn_X8_sumOf), (107, 2, 6, 3, 0, fn_X8_areSets), (111, 2, 6, 2, 0, fn_X8_stabilizerOf), (115, 0, 6, 1, 0, fn_X8_many)], in_X8, lg_X8, [], [], none, (some .int), 0)
set_option maxRecDepth 100000 in
theorem b_X8_excess_0 : (fun (v1 : Int32) (v2 : Int32) (M : Mem) => run C_X8_excess 3 (0, [some (.ref 19), some (.int v1), some (.int v2), none, none, none, none], [], M, 0)) = (fun (v1 : Int32) (v2 : Int32) (M : Mem) => some (.inl (3, [some (.ref 19), some (.int v1), some (.int v2), none, none, none, none], [.int v2, .int v1, .ref 19], M, 0))) := by rfl
set_option maxRecDepth 100000 in
theorem b_X8_excess_1 : (fun (v1 : Int32) (v2 : Int32) (w2 : Int32) (M1 : Mem) => run C_X8_excess 1 (6, [some (.ref 19), some (.int v1), some (.int v2), none, none, none, none], [.int w2], M1, 0)) = (fun (v1 : Int32) (v2 : Int32) (w2 : Int32) (M1 : Mem) => some (.inl ((br (!decide (w2 = 0)) 6 3 (5)), [some (.ref 19), some (.int v1), some (.int v2), none, none, none, none], [], M1, 0))) := by rfl
set_option maxRecDepth 100000 in
theorem b_X8_excess_2 : (fun (v1 : Int32) (v2 : Int32) (M1 : Mem) => run C_X8_excess 2 (9, [some (.ref 19), some (.int v1), some (.int v2), none, none, none, none], [], M1, 0)) = (fun (v1 : Int32) (v2 : Int32) (M1 : Mem) => some (.inr (.inl (some (.int (0 : Int32))), M1, 0))) := by rfl
set_option maxRecDepth 100000 in
theorem b_X8_excess_3 : (fun (v1 : Int32) (v2 : Int32) (M1 : Mem) => run C_X8_excess 4 (11, [some (.ref 19), some (.int v1), some (.int v2), none, none, none, none], [], M1, 0)) = (fun (v1 : Int32) (v2 : Int32) (M1 : Mem) => some (.inl (17, [some (.ref 19), some (.int v1), some (.int v2), none, none, none, none], [.int v1, .ref 20, .ref 19], M1, 0))) := by rfl
set_option maxRecDepth 100000 in
theorem b_X8_excess_4 : (fun (v1 : Int32) (v2 : Int32) (M1 : Mem) => stp C_X8_excess (17, [some (.ref 19), some (.int v1), some (.int v2), none, none, none, none], [.int v1, .ref 20, .ref 19], M1, 0)) = (fun (v1 : Int32) (v2 : Int32) (M1 : Mem) => (if inb v1 30 = true then some (.inl (18, [some (.ref 19), some (.int v1), some (.int v2), none, none, none, none], [.long (M1.2 20 (ix v1)), .ref 19], M1, 0)) else none)) := by rfl
set_option maxRecDepth 100000 in
theorem b_X8_excess_5 : (fun (v1 : Int32) (v2 : Int32) (M1 : Mem) => run C_X8_excess 3 (18, [some (.ref 19), some (.int v1), some (.int v2), none, none, none, none], [.long (M1.2 20 (ix v1)), .ref 19], M1, 0)) = (fun (v1 : Int32) (v2 : Int32) (M1 : Mem) => some (.inl (23, [some (.ref 19), some (.int v1), some (.int v2), none, none, none, none], [.int v2, .ref 20, .long (M1.2 20 (ix v1)), .ref 19], M1, 0))) := by rfl
set_option maxRecDepth 100000 in
theorem b_X8_excess_6 : (fun (v1 : Int32) (v2 : Int32) (M1 : Mem) => stp C_X8_excess (23, [some (.ref 19), some (.int v1), some (.int v2), none, none, none, none], [.int v2, .ref 20, .long (M1.2 20 (ix v1)), .ref 19], M1, 0)) = (fun (v1 : Int32) (v2 : Int32) (M1 : Mem) => (if inb v2 30 = true then some (.inl (24, [some (.ref 19), some (.int v1), some (.int v2), none, none, none, none], [.long (M1.2 20 (ix v2)), .long (M1.2 20 (ix v1)), .ref 19], M1, 0)) else none)) := by rfl
set_option maxRecDepth 100000 in
theorem b_X8_excess_7 : (fun (v1 : Int32) (v2 : Int32) (M1 : Mem) (w3 : Int64) => run C_X8_excess 3 (27, [some (.ref 19), some (.int v1), some (.int v2), none, none, none, none], [.long w3], M1, 0)) = (fun (v1 : Int32) (v2 : Int32) (M1 : Mem) (w3 : Int64) => some (.inl (30, [some (.ref 19), some (.int v1), some (.int v2), some (.long w3), none, none, none], [.long w3, .ref 19], M1, 0))) := by rfl
set_option maxRecDepth 100000 in
theorem b_X8_excess_8 : (fun (v1 : Int32) (v2 : Int32) (M1 : Mem) (w3 : Int64) (w4 : Int64) => run C_X8_excess 2 (33, [some (.ref 19), some (.int v1), some (.int v2), some (.long w3), none, none, none], [.long w4], M1, 0)) = (fun (v1 : Int32) (v2 : Int32) (M1 : Mem) (w3 : Int64) (w4 : Int64) => some (.inl (36, [some (.ref 19), some (.int v1), some (.int v2), some (.long w3), none, some (.long w4), none], [.long w3], M1, 0))) := by rfl
set_option maxRecDepth 100000 in
theorem b_X8_excess_9 : (fun (v1 : Int32) (v2 : Int32) (M1 : Mem) (w3 : Int64) (w4 : Int64) (w5 : Int32) => run C_X8_excess 4 (39, [some (.ref 19), some (.int v1), some (.int v2), some (.long w3), none, some (.long w4), none], [.int w5], M1, 0)) = (fun (v1 : Int32) (v2 : Int32) (M1 : Mem) (w3 : Int64) (w4 : Int64) (w5 : Int32) => some (.inl (45, [some (.ref 19), some (.int v1), some (.int v2), some (.long w3), none, some (.long w4), none], [.int v1, .ref 20, .ref 19, .int w5], M1, 0))) := by rfl
set_option maxRecDepth 100000 in
theorem b_X8_excess_10 : (fun (v1 : Int32) (v2 : Int32) (M1 : Mem) (w3 : Int64) (w4 : Int64) (w5 : Int32) => stp C_X8_excess (45, [some (.ref 19), some (.int v1), some (.int v2), some (.long w3), none, some (.long w4), none], [.int v1, .ref 20, .ref 19, .int w5], M1, 0)) = (fun (v1 : Int32) (v2 : Int32) (M1 : Mem) (w3 : Int64) (w4 : Int64) (w5 : Int32) => (if inb v1 30 = true then some (.inl (46, [some (.ref 19), some (.int v1), some (.int v2), some (.long w3), none, some (.long w4), none], [.long (M1.2 20 (ix v1)), .ref 19, .int w5], M1, 0)) else none)) := by rfl
set_option maxRecDepth 100000 in
theorem b_X8_excess_11 : (fun (v1 : Int32) (v2 : Int32) (M1 : Mem) (w3 : Int64) (w4 : Int64) (w5 : Int32) => run C_X8_excess 1 (46, [some (.ref 19), some (.int v1), some (.int v2), some (.long w3), none, some (.long w4), none], [.long (M1.2 20 (ix v1)), .ref 19, .int w5], M1, 0)) = (fun (v1 : Int32) (v2 : Int32) (M1 : Mem) (w3 : Int64) (w4 : Int64) (w5 : Int32) => some (.inl (48, [some (.ref 19), some (.int v1), some (.int v2), some (.long w3), none, some (.long w4), none], [.long w4, .long (M1.2 20 (ix v1)), .ref 19, .int w5], M1, 0))) := by rfl
set_option maxRecDepth 100000 in
theorem b_X8_excess_12 : (fun (v1 : Int32) (v2 : Int32) (M1 : Mem) (w3 : Int64) (w4 : Int64) (w5 : Int32) (w7 : Int32) => run C_X8_excess 5 (54, [some (.ref 19), some (.int v1), some (.int v2), some (.long w3), none, some (.long w4), none], [.int w7, .int w5], M1, 0)) = (fun (v1 : Int32) (v2 : Int32) (M1 : Mem) (w3 : Int64) (w4 : Int64) (w5 : Int32) (w7 : Int32) => some (.inl (61, [some (.ref 19), some (.int v1), some (.int v2), some (.long w3), none, some (.long w4), none], [.int v2, .ref 20, .ref 19, .int (w5 - w7)], M1, 0))) := by rfl
set_option maxRecDepth 100000 in
theorem b_X8_excess_13 : (fun (v1 : Int32) (v2 : Int32) (M1 : Mem) (w3 : Int64) (w4 : Int64) (w5 : Int32) (w7 : Int32) => stp C_X8_excess (61, [some (.ref 19), some (.int v1), some (.int v2), some (.long w3), none, some (.long w4), none], [.int v2, .ref 20, .ref 19, .int (w5 - w7)], M1, 0)) = (fun (v1 : Int32) (v2 : Int32) (M1 : Mem) (w3 : Int64) (w4 : Int64) (w5 : Int32) (w7 : Int32) => (if inb v2 30 = true then some (.inl (62, [some (.ref 19), some (.int v1), some (.int v2), some (.long w3), none, some (.long w4), none], [.long (M1.2 20 (ix v2)), .ref 19, .int (w5 - w7)], M1, 0)) else none)) := by rfl
set_option maxRecDepth 100000 in
theorem b_X8_excess_14 : (fun (v1 : Int32) (v2 : Int32) (M1 : Mem) (w3 : Int64) (w4 : Int64) (w5 : Int32) (w7 : Int32) => run C_X8_excess 1 (62, [some (.ref 19), some (.int v1), some (.int v2), some (.long w3), none, some (.long w4), none], [.long (M1.2 20 (ix v2)), .ref 19, .int (w5 - w7)], M1, 0)) = (fun (v1 : Int32) (v2 : Int32) (M1 : Mem) (w3 : Int64) (w4 : Int64) (w5 : Int32) (w7 : Int32) => some (.inl (64, [some (.ref 19), some (.int v1), some (.int v2), some (.long w3), none, some (.long w4), none], [.long w4, .long (M1.2 20 (ix v2)), .ref 19, .int (w5 - w7)], M1, 0))) := by rfl
set_option maxRecDepth 100000 in
theorem b_X8_excess_15 : (fun (v1 : Int32) (v2 : Int32) (M1 : Mem) (w3 : Int64) (w4 : Int64) (w5 : Int32) (w7 : Int32) (w9 : Int32) => run C_X8_excess 2 (70, [some (.ref 19), some (.int v1), some (.int v2), some (.long w3), none, some (.long w4), none], [.int w9, .int (w5 - w7)], M1, 0)) = (fun (v1 : Int32) (v2 : Int32) (M1 : Mem) (w3 : Int64) (w4 : Int64) (w5 : Int32) (w7 : Int32) (w9 : Int32) => some (.inl (73, [some (.ref 19), some (.int v1), some (.int v2), some (.long w3), none, some (.long w4), none], [.long w4, .int ((w5 - w7) - w9)], M1, 0))) := by rfl
set_option maxRecDepth 100000 in
theorem b_X8_excess_16 : (fun (v1 : Int32) (v2 : Int32) (M1 : Mem) (w3 : Int64) (w4 : Int64) (w5 : Int32) (w7 : Int32) (w9 : Int32) (w10 : Int32) => run C_X8_excess 2 (76, [some (.ref 19), some (.int v1), some (.int v2), some (.long w3), none, some (.long w4), none], [.int w10, .int ((w5 - w7) - w9)], M1, 0)) = (fun (v1 : Int32) (v2 : Int32) (M1 : Mem) (w3 : Int64) (w4 : Int64) (w5 : Int32) (w7 : Int32) (w9 : Int32) (w10 : Int32) => some (.inr (.inl (some (.int (((w5 - w7) - w9) + w10))), M1, 0))) := by rfl
def d_X8_excess (v1 : Int32) (v2 : Int32) (M : Mem) : Option (Res × Mem) := (onI (d_X8_areSets v1 v2 M) (fun w2 M1 => (if w2 = 0 then some (.inl (some (.int (0 : Int32))), M1) else (if inb v1 30 = true then (if inb v2 30 = true then ((d_X8_sumOf (M1.2 20 (ix v1)) (M1.2 20 (ix v2)) M1).bind fun w3 => ((d_X8_stabilizerOf w3 M1).bind fun w4 => ((d_X8_many w3).bind fun w5 => (if inb v1 30 = true then ((d_X8_sumOf (M1.2 20 (ix v1)) w4 M1).bind fun w6 => ((d_X8_many w6).bind fun w7 => (if inb v2 30 = true then ((d_X8_sumOf (M1.2 20 (ix v2)) w4 M1).bind fun w8 => ((d_X8_many w8).bind fun w9 => ((d_X8_many w4).bind fun w10 => some (.inl (some (.int (((w5 - w7) - w9) + w10))), M1)))) else none))) else none)))) else none) else none))) (fun r => some r))
set_option maxHeartbeats 2000000 in
theorem r_X8_excess (v1 : Int32) (v2 : Int32) (M : Mem) : RG C_X8_excess (0, [some (.ref 19), some (.int v1), some (.int v2), none, none, none, none], [], M, 0) (d_X8_excess v1 v2 M) (fun r => .inr r) := by
  unfold d_X8_excess
  refine RG.st 3 (congrFun (congrFun (congrFun b_X8_excess_0 v1) v2) M) ?_
  refine RG.callI (fun w2 M1 h1 => RG.st 1 (run_callV (v := (some (.int w2))) rfl rfl rfl rfl rfl h1) ?_) (fun E M1 h1 => RG.fin rfl (Rend.run 1 (run_callVx rfl rfl rfl rfl rfl h1 rfl)))
  show RG C_X8_excess (6, [some (.ref 19), some (.int v1), some (.int v2), none, none, none, none], [.int w2], M1, 0) _ _
  refine RG.st 1 (congrFun (congrFun (congrFun (congrFun b_X8_excess_1 v1) v2) w2) M1) ?_
  refine RG.ite (fun h2 => RG.brNF (q := 9) h2 rfl ?_) (fun h2 => RG.brNT (q := 11) h2 rfl ?_)
  · exact RG.fin rfl (Rend.run 2 (congrFun (congrFun (congrFun b_X8_excess_2 v1) v2) M1))
  · refine RG.st 4 (congrFun (congrFun (congrFun b_X8_excess_3 v1) v2) M1) ?_
    refine RG.guard (fun h3 => RG.st 1 (stp_g h3 (congrFun (congrFun (congrFun b_X8_excess_4 v1) v2) M1)) ?_)
    refine RG.st 3 (congrFun (congrFun (congrFun b_X8_excess_5 v1) v2) M1) ?_
    refine RG.guard (fun h4 => RG.st 1 (stp_g h4 (congrFun (congrFun (congrFun b_X8_excess_6 v1) v2) M1)) ?_)
    refine RG.bind (fun w3 h5 => RG.st 1 (run_callV (v := some (.long w3)) rfl rfl rfl rfl rfl (bindL h5)) ?_)
    show RG C_X8_excess (27, [some (.ref 19), some (.int v1), some (.int v2), none, none, none, none], [.long w3], M1, 0) _ _
    refine RG.st 3 (congrFun (congrFun (congrFun (congrFun b_X8_excess_7 v1) v2) M1) w3) ?_
    refine RG.bind (fun w4 h6 => RG.st 1 (run_callV (v := some (.long w4)) rfl rfl rfl rfl rfl (bindL h6)) ?_)
    show RG C_X8_excess (33, [some (.ref 19), some (.int v1), some (.int v2), some (.long w3), none, none, none], [.long w4], M1, 0) _ _
    refine RG.st 2 (congrFun (congrFun (congrFun (congrFun (congrFun b_X8_excess_8 v1) v2) M1) w3) w4) ?_
    refine RG.bind (fun w5 h7 => RG.st 1 (run_callS (v := some (.int w5)) rfl rfl rfl rfl (show fn_X8_many [.long w3] M1 = some (.inl (some (.int w5)), M1) from by unfold fn_X8_many; exact bindI h7)) ?_)
    show RG C_X8_excess (39, [some (.ref 19), some (.int v1), some (.int v2), some (.long w3), none, some (.long w4), none], [.int w5], M1, 0) _ _
    refine RG.st 4 (congrFun (congrFun (congrFun (congrFun (congrFun (congrFun b_X8_excess_9 v1) v2) M1) w3) w4) w5) ?_
    refine RG.guard (fun h8 => RG.st 1 (stp_g h8 (congrFun (congrFun (congrFun (congrFun (congrFun (congrFun b_X8_excess_10 v1) v2) M1) w3) w4) w5)) ?_)
    refine RG.st 1 (congrFun (congrFun (congrFun (congrFun (congrFun (congrFun b_X8_excess_11 v1) v2) M1) w3) w4) w5) ?_
    refine RG.bind (fun w6 h9 => RG.st 1 (run_callV (v := some (.long w6)) rfl rfl rfl rfl rfl (bindL h9)) ?_)
    show RG C_X8_excess (51, [some (.ref 19), some (.int v1), some (.int v2), some (.long w3), none, some (.long w4), none], [.long w6, .int w5], M1, 0) _ _
    refine RG.bind (fun w7 h10 => RG.st 1 (run_callS (v := some (.int w7)) rfl rfl rfl rfl (show fn_X8_many [.long w6] M1 = some (.inl (some (.int w7)), M1) from by unfold fn_X8_many; exact bindI h10)) ?_)
    show RG C_X8_excess (54, [some (.ref 19), some (.int v1), some (.int v2), some (.long w3), none, some (.long w4), none], [.int w7, .int w5], M1, 0) _ _
    refine RG.st 5 (congrFun (congrFun (congrFun (congrFun (congrFun (congrFun (congrFun b_X8_excess_12 v1) v2) M1) w3) w4) w5) w7) ?_
    refine RG.guard (fun h11 => RG.st 1 (stp_g h11 (congrFun (congrFun (congrFun (congrFun (congrFun (congrFun (congrFun b_X8_excess_13 v1) v2) M1) w3) w4) w5) w7)) ?_)
    refine RG.st 1 (congrFun (congrFun (congrFun (congrFun (congrFun (congrFun (congrFun b_X8_excess_14 v1) v2) M1) w3) w4) w5) w7) ?_
    refine RG.bind (fun w8 h12 => RG.st 1 (run_callV (v := some (.long w8)) rfl rfl rfl rfl rfl (bindL h12)) ?_)
    show RG C_X8_excess (67, [some (.ref 19), some (.int v1), some (.int v2), some (.long w3), none, some (.long w4), none], [.long w8, .int (w5 - w7)], M1, 0) _ _
    refine RG.bind (fun w9 h13 => RG.st 1 (run_callS (v := some (.int w9)) rfl rfl rfl rfl (show fn_X8_many [.long w8] M1 = some (.inl (some (.int w9)), M1) from by unfold fn_X8_many; exact bindI h13)) ?_)
    show RG C_X8_excess (70, [some (.ref 19), some (.int v1), some (.int v2), some (.long w3), none, some (.long w4), none], [.int w9, .int (w5 - w7)], M1, 0) _ _
    refine RG.st 2 (congrFun (congrFun (congrFun (congrFun (congrFun (congrFun (congrFun (congrFun b_X8_excess_15 v1) v2) M1) w3) w4) w5) w7) w9) ?_
    refine RG.bind (fun w10 h14 => RG.st 1 (run_callS (v := some (.int w10)) rfl rfl rfl rfl (show fn_X8_many [.long w4] M1 = some (.inl (some (.int w10)), M1) from by unfold fn_X8_many; exact bindI h14)) ?_)
    show RG C_X8_excess (76, [some (.ref 19), some (.int v1), some (.int v2), some (.long w3), none, some (.long w4), none], [.int w10, .int ((w5 - w7) - w9)], M1, 0) _ _
    exact RG.fin rfl (Rend.run 2 (congrFun (congrFun (congrFun (congrFun (congrFun (congrFun (congrFun (congrFun (congrFun b_X8_excess_16 v1) v2) M1) w3) w4) w5) w7) w9) w10))
def fn_X8_excess : Fn := fun av M => match av with
  | [.ref r0, .int v1, .int v2] => bif Nat.beq r0 19 then (d_X8_excess v1 v2 M) else (none)
  | _ => none
theorem cfg_X8_excess : CfgOK RX8 cX8_excess (C_X8_excess) 6 := ⟨tk_X8_excess, csF_nd, flk_X8, (List.forall_mem_cons.mpr ⟨Or.inr ⟨yX8_sumOf, cX8_sumOf, 5, (some .long), none, 4, ok_X8_sumOf, by decide, by decide, w_code_SumsetryModel_sumOf__JJ_J, w_initialized_SumsetryModel, ⟨by decide, by decide⟩, Or.inr (Or.inr ⟨rfl, rfl, show (parseMethodDescriptor yX8_sumOf.desc).map (fun d => d.parameters.length + 1) = some 3 from by decide +kernel, w_methodLink_SumsetryModel_99, w_instanceMethod_SumsetryModel_sumOf__JJ_J, w_selects_SumsetryModel_sumOf__JJ_J, ⟨_, rfl, rfl⟩⟩)⟩,
    List.forall_mem_cons.mpr ⟨Or.inr ⟨yX8_areSets, cX8_areSets, 3, (some .boolean), none, 3, ok_X8_areSets, by decide, by decide, w_code_SumsetryModel_areSets__II_Z, w_initialized_SumsetryModel, ⟨by decide, by decide⟩, Or.inr (Or.inr ⟨rfl, rfl, show (parseMethodDescriptor yX8_areSets.desc).map (fun d => d.parameters.length + 1) = some 3 from by decide +kernel, w_methodLink_SumsetryModel_107, w_instanceMethod_SumsetryModel_areSets__II_Z, w_selects_SumsetryModel_areSets__II_Z, ⟨_, rfl, rfl⟩⟩)⟩,
    List.forall_mem_cons.mpr ⟨Or.inr ⟨yX8_stabilizerOf, cX8_stabilizerOf, 6, (some .long), none, 5, ok_X8_stabilizerOf, by decide, by decide, w_code_SumsetryModel_stabilizerOf__J_J, w_initialized_SumsetryModel, ⟨by decide, by decide⟩, Or.inr (Or.inr ⟨rfl, rfl, show (parseMethodDescriptor yX8_stabilizerOf.desc).map (fun d => d.parameters.length + 1) = some 2 from by decide +kernel, w_methodLink_SumsetryModel_111, w_instanceMethod_SumsetryModel_stabilizerOf__J_J, w_selects_SumsetryModel_stabilizerOf__J_J, ⟨_, rfl, rfl⟩⟩)⟩,
    List.forall_mem_cons.mpr ⟨Or.inr ⟨yX8_many, cX8_many, 4, (some .int), none, 2, ok_X8_many, by decide, by decide, w_code_SumsetryModel_many__J_I, w_initialized_SumsetryModel, ⟨by decide, by decide⟩, Or.inl ⟨rfl, show (parseMethodDescriptor yX8_many.desc).map (fun d => d.parameters.length) = some 1 from by decide +kernel, w_methodLink_SumsetryModel_115, w_static_SumsetryModel_many__J_I⟩⟩, fun _ h => absurd h List.not_mem_nil⟩⟩⟩⟩), ink_X8, lgk_X8, fun e h => absurd h List.not_mem_nil, (fun h hh => absurd hh List.not_mem_nil)⟩
theorem ok_X8_excess : OkM csF yX8_excess (Cond.code yX8_excess cX8_excess 7 (some .int)) 6 0 fn_X8_excess :=
  OkM_of (own := RX8) (C := C_X8_excess) (by decide +kernel) rfl (cfg_X8_excess) rfl rfl rfl rfl (by
    intro av M o M' h
    unfold fn_X8_excess at h
    split at h
    · rename_i r0 v1 v2
      rcases bif_cs h with ⟨hb, h⟩ | ⟨-, h⟩
      · skip
        have hr0 := hb
        obtain rfl := Nat.eq_of_beq_eq_true hr0
        exact ⟨rfl, Nat.le_of_ble_eq_true rfl, (r_X8_excess v1 v2 M) (o, M') h⟩
      · cases h
    · cases h)
def t_X8_differences : List (Nat × Instr × Nat) := [(0, .aload_n 0, 1), (1, .aload_n 0, 1), (2, .getfield 16, 3), (5, .iload_n 1, 1), (6, .laload, 1), (7, .iconst (-1), 1), (8, .aload_n 0, 1), (9, .getfield 16, 3), (12, .iload_n 2, 1), (13, .laload, 1), (14, .iconst 0, 1), (15, .invokevirtual 92, 3), (18, .invokestatic 115, 3), (21, .ireturn, 1)]
theorem tk_X8_differences : ∀ x ∈ t_X8_differences, decode cX8_differences x.1 = .ok x.2 := by decide +kernel
def C_X8_differences : Cfg := (t_X8_differences, csF, fl_X8, [(92, 2, 6, 5, 0, fn_X8_allSums), (115, 0, 6, 1, 0, fn_X8_many)], in_X8, lg_X8, [], [], none, (some .int), 0)
set_option maxRecDepth 100000 in
theorem b_X8_differences_0 : (fun (v1 : Int32) (v2 : Int32) (M : Mem) => run C_X8_differences 4 (0, [some (.ref 19), some (.int v1), some (.int v2)], [], M, 0)) = (fun (v1 : Int32) (v2 : Int32) (M : Mem) => some (.inl (6, [some (.ref 19), some (.int v1), some (.int v2)], [.int v1, .ref 20, .ref 19], M, 0))) := by rfl
set_option maxRecDepth 100000 in
theorem b_X8_differences_1 : (fun (v1 : Int32) (v2 : Int32) (M : Mem) => stp C_X8_differences (6, [some (.ref 19), some (.int v1), some (.int v2)], [.int v1, .ref 20, .ref 19], M, 0)) = (fun (v1 : Int32) (v2 : Int32) (M : Mem) => (if inb v1 30 = true then some (.inl (7, [some (.ref 19), some (.int v1), some (.int v2)], [.long (M.2 20 (ix v1)), .ref 19], M, 0)) else none)) := by rfl
set_option maxRecDepth 100000 in
theorem b_X8_differences_2 : (fun (v1 : Int32) (v2 : Int32) (M : Mem) => run C_X8_differences 4 (7, [some (.ref 19), some (.int v1), some (.int v2)], [.long (M.2 20 (ix v1)), .ref 19], M, 0)) = (fun (v1 : Int32) (v2 : Int32) (M : Mem) => some (.inl (13, [some (.ref 19), some (.int v1), some (.int v2)], [.int v2, .ref 20, .int (-1 : Int32), .long (M.2 20 (ix v1)), .ref 19], M, 0))) := by rfl
set_option maxRecDepth 100000 in
theorem b_X8_differences_3 : (fun (v1 : Int32) (v2 : Int32) (M : Mem) => stp C_X8_differences (13, [some (.ref 19), some (.int v1), some (.int v2)], [.int v2, .ref 20, .int (-1 : Int32), .long (M.2 20 (ix v1)), .ref 19], M, 0)) = (fun (v1 : Int32) (v2 : Int32) (M : Mem) => (if inb v2 30 = true then some (.inl (14, [some (.ref 19), some (.int v1), some (.int v2)], [.long (M.2 20 (ix v2)), .int (-1 : Int32), .long (M.2 20 (ix v1)), .ref 19], M, 0)) else none)) := by rfl
set_option maxRecDepth 100000 in
theorem b_X8_differences_4 : (fun (v1 : Int32) (v2 : Int32) (M : Mem) => run C_X8_differences 1 (14, [some (.ref 19), some (.int v1), some (.int v2)], [.long (M.2 20 (ix v2)), .int (-1 : Int32), .long (M.2 20 (ix v1)), .ref 19], M, 0)) = (fun (v1 : Int32) (v2 : Int32) (M : Mem) => some (.inl (15, [some (.ref 19), some (.int v1), some (.int v2)], [.int (0 : Int32), .long (M.2 20 (ix v2)), .int (-1 : Int32), .long (M.2 20 (ix v1)), .ref 19], M, 0))) := by rfl
set_option maxRecDepth 100000 in
theorem b_X8_differences_5 : (fun (v1 : Int32) (v2 : Int32) (M : Mem) (w2 : Int32) => run C_X8_differences 1 (21, [some (.ref 19), some (.int v1), some (.int v2)], [.int w2], M, 0)) = (fun (v1 : Int32) (v2 : Int32) (M : Mem) (w2 : Int32) => some (.inr (.inl (some (.int w2)), M, 0))) := by rfl
def d_X8_differences (v1 : Int32) (v2 : Int32) (M : Mem) : Option Int32 := (if inb v1 30 = true then (if inb v2 30 = true then ((d_X8_allSums (M.2 20 (ix v1)) (-1 : Int32) (M.2 20 (ix v2)) (0 : Int32) M).bind fun w1 => ((d_X8_many w1).bind fun w2 => some w2)) else none) else none)
set_option maxHeartbeats 2000000 in
theorem r_X8_differences (v1 : Int32) (v2 : Int32) (M : Mem) : RG C_X8_differences (0, [some (.ref 19), some (.int v1), some (.int v2)], [], M, 0) (d_X8_differences v1 v2 M) (fun v => .inr (.inl (some (.int v)), M)) := by
  unfold d_X8_differences
  refine RG.st 4 (congrFun (congrFun (congrFun b_X8_differences_0 v1) v2) M) ?_
  refine RG.guard (fun h1 => RG.st 1 (stp_g h1 (congrFun (congrFun (congrFun b_X8_differences_1 v1) v2) M)) ?_)
  refine RG.st 4 (congrFun (congrFun (congrFun b_X8_differences_2 v1) v2) M) ?_
  refine RG.guard (fun h2 => RG.st 1 (stp_g h2 (congrFun (congrFun (congrFun b_X8_differences_3 v1) v2) M)) ?_)
  refine RG.st 1 (congrFun (congrFun (congrFun b_X8_differences_4 v1) v2) M) ?_
  refine RG.bind (fun w1 h3 => RG.st 1 (run_callV (v := some (.long w1)) rfl rfl rfl rfl rfl (bindL h3)) ?_)
  show RG C_X8_differences (18, [some (.ref 19), some (.int v1), some (.int v2)], [.long w1], M, 0) _ _
  refine RG.bind (fun w2 h4 => RG.st 1 (run_callS (v := some (.int w2)) rfl rfl rfl rfl (show fn_X8_many [.long w1] M = some (.inl (some (.int w2)), M) from by unfold fn_X8_many; exact bindI h4)) ?_)
  show RG C_X8_differences (21, [some (.ref 19), some (.int v1), some (.int v2)], [.int w2], M, 0) _ _
  exact RG.fin rfl (Rend.run 1 (congrFun (congrFun (congrFun (congrFun b_X8_differences_5 v1) v2) M) w2))
def fn_X8_differences : Fn := fun av M => match av with
  | [.ref r0, .int v1, .int v2] => bif Nat.beq r0 19 then (d_X8_differences v1 v2 M).bind fun v => some (.inl (some (.int v)), M) else (none)
  | _ => none
theorem cfg_X8_differences : CfgOK RX8 cX8_differences (C_X8_differences) 4 := ⟨tk_X8_differences, csF_nd, flk_X8, (List.forall_mem_cons.mpr ⟨Or.inr ⟨yX8_allSums, cX8_allSums, 12, (some .long), none, 3, ok_X8_allSums, by decide, by decide, w_code_SumsetryModel_allSums__JIJZ_J, w_initialized_SumsetryModel, ⟨by decide, by decide⟩, Or.inr (Or.inr ⟨rfl, rfl, show (parseMethodDescriptor yX8_allSums.desc).map (fun d => d.parameters.length + 1) = some 5 from by decide +kernel, w_methodLink_SumsetryModel_92, w_instanceMethod_SumsetryModel_allSums__JIJZ_J, w_selects_SumsetryModel_allSums__JIJZ_J, ⟨_, rfl, rfl⟩⟩)⟩,
    List.forall_mem_cons.mpr ⟨Or.inr ⟨yX8_many, cX8_many, 4, (some .int), none, 2, ok_X8_many, by decide, by decide, w_code_SumsetryModel_many__J_I, w_initialized_SumsetryModel, ⟨by decide, by decide⟩, Or.inl ⟨rfl, show (parseMethodDescriptor yX8_many.desc).map (fun d => d.parameters.length) = some 1 from by decide +kernel, w_methodLink_SumsetryModel_115, w_static_SumsetryModel_many__J_I⟩⟩, fun _ h => absurd h List.not_mem_nil⟩⟩), ink_X8, lgk_X8, fun e h => absurd h List.not_mem_nil, (fun h hh => absurd hh List.not_mem_nil)⟩
theorem ok_X8_differences : OkM csF yX8_differences (Cond.code yX8_differences cX8_differences 3 (some .int)) 4 0 fn_X8_differences :=
  OkM_of (own := RX8) (C := C_X8_differences) (by decide +kernel) rfl (cfg_X8_differences) rfl rfl rfl rfl (by
    intro av M o M' h
    unfold fn_X8_differences at h
    split at h
    · rename_i r0 v1 v2
      rcases bif_cs h with ⟨hb, h⟩ | ⟨-, h⟩
      · skip
        have hr0 := hb
        obtain rfl := Nat.eq_of_beq_eq_true hr0
        obtain ⟨w, hw, h⟩ := bind_cs h
        cases h
        exact ⟨rfl, Nat.le_of_ble_eq_true rfl, (r_X8_differences v1 v2 M) w hw⟩
      · cases h
    · cases h)
def t_X8_slack : List (Nat × Instr × Nat) := [(0, .aload_n 0, 1), (1, .aload_n 0, 1), (2, .iload_n 1, 1), (3, .invokevirtual 96, 3), (6, .ifCond .eq 23, 3), (9, .aload_n 0, 1), (10, .iload_n 2, 1), (11, .invokevirtual 96, 3), (14, .ifCond .eq 15, 3), (17, .aload_n 0, 1), (18, .iload_n 3, 1), (19, .invokevirtual 96, 3), (22, .ifCond .eq 7, 3), (25, .iconst 0, 1), (26, .goto 4, 3), (29, .iconst 1, 1), (30, .putfield 46, 3), (33, .aload_n 0, 1), (34, .getfield 46, 3), (37, .ifCond .le 7, 3), (40, .iconst 0, 1), (41, .goto 33, 3), (44, .aload_n 0, 1), (45, .iload_n 1, 1), (46, .iload_n 2, 1), (47, .invokevirtual 118, 3), (50, .aload_n 0, 1), (51, .iload_n 2, 1), (52, .iload_n 3, 1), (53, .invokevirtual 118, 3), (56, .imul, 1), (57, .aload_n 0, 1), (58, .iload_n 1, 1), (59, .iload_n 3, 1), (60, .invokevirtual 118, 3), (63, .aload_n 0, 1), (64, .getfield 16, 3), (67, .iload_n 2, 1), (68, .laload, 1), (69, .invokestatic 115, 3), (72, .imul, 1), (73, .isub, 1), (74, .ireturn, 1)]
theorem tk_X8_slack : ∀ x ∈ t_X8_slack, decode cX8_slack x.1 = .ok x.2 := by decide +kernel
def C_X8_slack : Cfg := (t_X8_slack, csF, fl_X8, [(96, 2, 6, 2, 0, fn_X8_isSet), (115, 0, 6, 1, 0, fn_X8_many), (118, 2, 6, 3, 0, fn_X8_differences)], in_X8, lg_X8, [], [], none, (some .int), 0)
set_option maxRecDepth 100000 in
theorem b_X8_slack_0 : (fun (v1 : Int32) (v2 : Int32) (v3 : Int32) (M : Mem) => run C_X8_slack 5 (0, [some (.ref 19), some (.int v1), some (.int v2), some (.int v3)], [], M, 0)) = (fun (v1 : Int32) (v2 : Int32) (v3 : Int32) (M : Mem) => some (.inl ((br (decide ((d_X8_isSet v1 M) = 0)) 6 3 (23)), [some (.ref 19), some (.int v1), some (.int v2), some (.int v3)], [.ref 19], M, 0))) := by rfl
set_option maxRecDepth 100000 in
theorem b_X8_slack_1 : (fun (v1 : Int32) (v2 : Int32) (v3 : Int32) (M : Mem) => run C_X8_slack 1 (29, [some (.ref 19), some (.int v1), some (.int v2), some (.int v3)], [.ref 19], M, 0)) = (fun (v1 : Int32) (v2 : Int32) (v3 : Int32) (M : Mem) => some (.inl (30, [some (.ref 19), some (.int v1), some (.int v2), some (.int v3)], [.int (1 : Int32), .ref 19], M, 0))) := by rfl
set_option maxRecDepth 100000 in
theorem b_X8_slack_2 : (fun (v1 : Int32) (v2 : Int32) (v3 : Int32) (M : Mem) => run C_X8_slack 4 (9, [some (.ref 19), some (.int v1), some (.int v2), some (.int v3)], [.ref 19], M, 0)) = (fun (v1 : Int32) (v2 : Int32) (v3 : Int32) (M : Mem) => some (.inl ((br (decide ((d_X8_isSet v2 M) = 0)) 14 3 (15)), [some (.ref 19), some (.int v1), some (.int v2), some (.int v3)], [.ref 19], M, 0))) := by rfl
set_option maxRecDepth 100000 in
theorem b_X8_slack_3 : (fun (v1 : Int32) (v2 : Int32) (v3 : Int32) (M : Mem) => run C_X8_slack 1 (29, [some (.ref 19), some (.int v1), some (.int v2), some (.int v3)], [.ref 19], M, 0)) = (fun (v1 : Int32) (v2 : Int32) (v3 : Int32) (M : Mem) => some (.inl (30, [some (.ref 19), some (.int v1), some (.int v2), some (.int v3)], [.int (1 : Int32), .ref 19], M, 0))) := by rfl
set_option maxRecDepth 100000 in
theorem b_X8_slack_4 : (fun (v1 : Int32) (v2 : Int32) (v3 : Int32) (M : Mem) => run C_X8_slack 4 (17, [some (.ref 19), some (.int v1), some (.int v2), some (.int v3)], [.ref 19], M, 0)) = (fun (v1 : Int32) (v2 : Int32) (v3 : Int32) (M : Mem) => some (.inl ((br (decide ((d_X8_isSet v3 M) = 0)) 22 3 (7)), [some (.ref 19), some (.int v1), some (.int v2), some (.int v3)], [.ref 19], M, 0))) := by rfl
set_option maxRecDepth 100000 in
theorem b_X8_slack_5 : (fun (v1 : Int32) (v2 : Int32) (v3 : Int32) (M : Mem) => run C_X8_slack 1 (29, [some (.ref 19), some (.int v1), some (.int v2), some (.int v3)], [.ref 19], M, 0)) = (fun (v1 : Int32) (v2 : Int32) (v3 : Int32) (M : Mem) => some (.inl (30, [some (.ref 19), some (.int v1), some (.int v2), some (.int v3)], [.int (1 : Int32), .ref 19], M, 0))) := by rfl
set_option maxRecDepth 100000 in
theorem b_X8_slack_6 : (fun (v1 : Int32) (v2 : Int32) (v3 : Int32) (M : Mem) => run C_X8_slack 2 (25, [some (.ref 19), some (.int v1), some (.int v2), some (.int v3)], [.ref 19], M, 0)) = (fun (v1 : Int32) (v2 : Int32) (v3 : Int32) (M : Mem) => some (.inl (30, [some (.ref 19), some (.int v1), some (.int v2), some (.int v3)], [.int (0 : Int32), .ref 19], M, 0))) := by rfl
theorem m_X8_slack_0 (v1 : Int32) (v2 : Int32) (v3 : Int32) (M : Mem) : Rto C_X8_slack (17, [some (.ref 19), some (.int v1), some (.int v2), some (.int v3)], [.ref 19], M, 0) (30, [some (.ref 19), some (.int v1), some (.int v2), some (.int v3)], [.int (if (d_X8_isSet v3 M) = 0 then (1 : Int32) else (0 : Int32)), .ref 19], M, 0) := by
  refine Rto.trans (Rto.run 4 (congrFun (congrFun (congrFun (congrFun b_X8_slack_4 v1) v2) v3) M)) ?_
  by_cases h : (d_X8_isSet v3 M) = 0
  · refine Rto.trans (Rto.brT (q := 29) h rfl) ?_
    refine Rto.trans (Rto.run 1 (congrFun (congrFun (congrFun (congrFun b_X8_slack_5 v1) v2) v3) M)) ?_
    exact Rto.eq (by first | (simp only [if_pos h]; done) | rfl | exact absurd rfl h | (simp; done))
  · refine Rto.trans (Rto.brF (q := 25) h rfl) ?_
    refine Rto.trans (Rto.run 2 (congrFun (congrFun (congrFun (congrFun b_X8_slack_6 v1) v2) v3) M)) ?_
    exact Rto.eq (by first | (simp only [if_neg h]; done) | rfl | exact absurd rfl h | (simp; done))
theorem m_X8_slack_1 (v1 : Int32) (v2 : Int32) (v3 : Int32) (M : Mem) : Rto C_X8_slack (9, [some (.ref 19), some (.int v1), some (.int v2), some (.int v3)], [.ref 19], M, 0) (30, [some (.ref 19), some (.int v1), some (.int v2), some (.int v3)], [.int (if (d_X8_isSet v2 M) = 0 then (1 : Int32) else (if (d_X8_isSet v3 M) = 0 then (1 : Int32) else (0 : Int32))), .ref 19], M, 0) := by
  refine Rto.trans (Rto.run 4 (congrFun (congrFun (congrFun (congrFun b_X8_slack_2 v1) v2) v3) M)) ?_
  by_cases h : (d_X8_isSet v2 M) = 0
  · refine Rto.trans (Rto.brT (q := 29) h rfl) ?_
    refine Rto.trans (Rto.run 1 (congrFun (congrFun (congrFun (congrFun b_X8_slack_3 v1) v2) v3) M)) ?_
    exact Rto.eq (by first | (simp only [if_pos h]; done) | rfl | exact absurd rfl h | (simp; done))
  · refine Rto.trans (Rto.brF (q := 17) h rfl) ?_
    refine Rto.trans (m_X8_slack_0 v1 v2 v3 M) ?_
    exact Rto.eq (by first | (simp only [if_neg h]; done) | rfl | exact absurd rfl h | (simp; done))
theorem m_X8_slack_2 (v1 : Int32) (v2 : Int32) (v3 : Int32) (M : Mem) : Rto C_X8_slack (0, [some (.ref 19), some (.int v1), some (.int v2), some (.int v3)], [], M, 0) (30, [some (.ref 19), some (.int v1), some (.int v2), some (.int v3)], [.int (if (d_X8_isSet v1 M) = 0 then (1 : Int32) else (if (d_X8_isSet v2 M) = 0 then (1 : Int32) else (if (d_X8_isSet v3 M) = 0 then (1 : Int32) else (0 : Int32)))), .ref 19], M, 0) := by
  refine Rto.trans (Rto.run 5 (congrFun (congrFun (congrFun (congrFun b_X8_slack_0 v1) v2) v3) M)) ?_
  by_cases h : (d_X8_isSet v1 M) = 0
  · refine Rto.trans (Rto.brT (q := 29) h rfl) ?_
    refine Rto.trans (Rto.run 1 (congrFun (congrFun (congrFun (congrFun b_X8_slack_1 v1) v2) v3) M)) ?_
    exact Rto.eq (by first | (simp only [if_pos h]; done) | rfl | exact absurd rfl h | (simp; done))
  · refine Rto.trans (Rto.brF (q := 9) h rfl) ?_
    refine Rto.trans (m_X8_slack_1 v1 v2 v3 M) ?_
    exact Rto.eq (by first | (simp only [if_neg h]; done) | rfl | exact absurd rfl h | (simp; done))
set_option maxRecDepth 100000 in
theorem b_X8_slack_7 : (fun (v1 : Int32) (v2 : Int32) (v3 : Int32) (M : Mem) => run C_X8_slack 4 (30, [some (.ref 19), some (.int v1), some (.int v2), some (.int v3)], [.int (if (d_X8_isSet v1 M) = 0 then (1 : Int32) else (if (d_X8_isSet v2 M) = 0 then (1 : Int32) else (if (d_X8_isSet v3 M) = 0 then (1 : Int32) else (0 : Int32)))), .ref 19], M, 0)) = (fun (v1 : Int32) (v2 : Int32) (v3 : Int32) (M : Mem) => some (.inl ((br (decide ((if (d_X8_isSet v1 M) = 0 then (1 : Int32) else (if (d_X8_isSet v2 M) = 0 then (1 : Int32) else (if (d_X8_isSet v3 M) = 0 then (1 : Int32) else (0 : Int32)))) ≤ 0)) 37 3 (7)), [some (.ref 19), some (.int v1), some (.int v2), some (.int v3)], [], (sI M 19 15 (if (d_X8_isSet v1 M) = 0 then (1 : Int32) else (if (d_X8_isSet v2 M) = 0 then (1 : Int32) else (if (d_X8_isSet v3 M) = 0 then (1 : Int32) else (0 : Int32))))), 0))) := by rfl
set_option maxRecDepth 100000 in
theorem b_X8_slack_8 : (fun (v1 : Int32) (v2 : Int32) (v3 : Int32) (M : Mem) => run C_X8_slack 3 (44, [some (.ref 19), some (.int v1), some (.int v2), some (.int v3)], [], (sI M 19 15 (if (d_X8_isSet v1 M) = 0 then (1 : Int32) else (if (d_X8_isSet v2 M) = 0 then (1 : Int32) else (if (d_X8_isSet v3 M) = 0 then (1 : Int32) else (0 : Int32))))), 0)) = (fun (v1 : Int32) (v2 : Int32) (v3 : Int32) (M : Mem) => some (.inl (47, [some (.ref 19), some (.int v1), some (.int v2), some (.int v3)], [.int v2, .int v1, .ref 19], (sI M 19 15 (if (d_X8_isSet v1 M) = 0 then (1 : Int32) else (if (d_X8_isSet v2 M) = 0 then (1 : Int32) else (if (d_X8_isSet v3 M) = 0 then (1 : Int32) else (0 : Int32))))), 0))) := by rfl
set_option maxRecDepth 100000 in
theorem b_X8_slack_9 : (fun (v1 : Int32) (v2 : Int32) (v3 : Int32) (M : Mem) (w1 : Int32) => run C_X8_slack 3 (50, [some (.ref 19), some (.int v1), some (.int v2), some (.int v3)], [.int w1], (sI M 19 15 (if (d_X8_isSet v1 M) = 0 then (1 : Int32) else (if (d_X8_isSet v2 M) = 0 then (1 : Int32) else (if (d_X8_isSet v3 M) = 0 then (1 : Int32) else (0 : Int32))))), 0)) = (fun (v1 : Int32) (v2 : Int32) (v3 : Int32) (M : Mem) (w1 : Int32) => some (.inl (53, [some (.ref 19), some (.int v1), some (.int v2), some (.int v3)], [.int v3, .int v2, .ref 19, .int w1], (sI M 19 15 (if (d_X8_isSet v1 M) = 0 then (1 : Int32) else (if (d_X8_isSet v2 M) = 0 then (1 : Int32) else (if (d_X8_isSet v3 M) = 0 then (1 : Int32) else (0 : Int32))))), 0))) := by rfl
set_option maxRecDepth 100000 in
theorem b_X8_slack_10 : (fun (v1 : Int32) (v2 : Int32) (v3 : Int32) (M : Mem) (w1 : Int32) (w2 : Int32) => run C_X8_slack 4 (56, [some (.ref 19), some (.int v1), some (.int v2), some (.int v3)], [.int w2, .int w1], (sI M 19 15 (if (d_X8_isSet v1 M) = 0 then (1 : Int32) else (if (d_X8_isSet v2 M) = 0 then (1 : Int32) else (if (d_X8_isSet v3 M) = 0 then (1 : Int32) else (0 : Int32))))), 0)) = (fun (v1 : Int32) (v2 : Int32) (v3 : Int32) (M : Mem) (w1 : Int32) (w2 : Int32) => some (.inl (60, [some (.ref 19), some (.int v1), some (.int v2), some (.int v3)], [.int v3, .int v1, .ref 19, .int (w1 * w2)], (sI M 19 15 (if (d_X8_isSet v1 M) = 0 then (1 : Int32) else (if (d_X8_isSet v2 M) = 0 then (1 : Int32) else (if (d_X8_isSet v3 M) = 0 then (1 : Int32) else (0 : Int32))))), 0))) := by rfl
set_option maxRecDepth 100000 in
theorem b_X8_slack_11 : (fun (v1 : Int32) (v2 : Int32) (v3 : Int32) (M : Mem) (w1 : Int32) (w2 : Int32) (w3 : Int32) => run C_X8_slack 3 (63, [some (.ref 19), some (.int v1), some (.int v2), some (.int v3)], [.int w3, .int (w1 * w2)], (sI M 19 15 (if (d_X8_isSet v1 M) = 0 then (1 : Int32) else (if (d_X8_isSet v2 M) = 0 then (1 : Int32) else (if (d_X8_isSet v3 M) = 0 then (1 : Int32) else (0 : Int32))))), 0)) = (fun (v1 : Int32) (v2 : Int32) (v3 : Int32) (M : Mem) (w1 : Int32) (w2 : Int32) (w3 : Int32) => some (.inl (68, [some (.ref 19), some (.int v1), some (.int v2), some (.int v3)], [.int v2, .ref 20, .int w3, .int (w1 * w2)], (sI M 19 15 (if (d_X8_isSet v1 M) = 0 then (1 : Int32) else (if (d_X8_isSet v2 M) = 0 then (1 : Int32) else (if (d_X8_isSet v3 M) = 0 then (1 : Int32) else (0 : Int32))))), 0))) := by rfl
set_option maxRecDepth 100000 in
theorem b_X8_slack_12 : (fun (v1 : Int32) (v2 : Int32) (v3 : Int32) (M : Mem) (w1 : Int32) (w2 : Int32) (w3 : Int32) => stp C_X8_slack (68, [some (.ref 19), some (.int v1), some (.int v2), some (.int v3)], [.int v2, .ref 20, .int w3, .int (w1 * w2)], (sI M 19 15 (if (d_X8_isSet v1 M) = 0 then (1 : Int32) else (if (d_X8_isSet v2 M) = 0 then (1 : Int32) else (if (d_X8_isSet v3 M) = 0 then (1 : Int32) else (0 : Int32))))), 0)) = (fun (v1 : Int32) (v2 : Int32) (v3 : Int32) (M : Mem) (w1 : Int32) (w2 : Int32) (w3 : Int32) => (if inb v2 30 = true then some (.inl (69, [some (.ref 19), some (.int v1), some (.int v2), some (.int v3)], [.long (M.2 20 (ix v2)), .int w3, .int (w1 * w2)], (sI M 19 15 (if (d_X8_isSet v1 M) = 0 then (1 : Int32) else (if (d_X8_isSet v2 M) = 0 then (1 : Int32) else (if (d_X8_isSet v3 M) = 0 then (1 : Int32) else (0 : Int32))))), 0)) else none)) := by rfl
set_option maxRecDepth 100000 in
theorem b_X8_slack_13 : (fun (v1 : Int32) (v2 : Int32) (v3 : Int32) (M : Mem) (w1 : Int32) (w2 : Int32) (w3 : Int32) (w4 : Int32) => run C_X8_slack 3 (72, [some (.ref 19), some (.int v1), some (.int v2), some (.int v3)], [.int w4, .int w3, .int (w1 * w2)], (sI M 19 15 (if (d_X8_isSet v1 M) = 0 then (1 : Int32) else (if (d_X8_isSet v2 M) = 0 then (1 : Int32) else (if (d_X8_isSet v3 M) = 0 then (1 : Int32) else (0 : Int32))))), 0)) = (fun (v1 : Int32) (v2 : Int32) (v3 : Int32) (M : Mem) (w1 : Int32) (w2 : Int32) (w3 : Int32) (w4 : Int32) => some (.inr (.inl (some (.int ((w1 * w2) - (w3 * w4)))), (sI M 19 15 (if (d_X8_isSet v1 M) = 0 then (1 : Int32) else (if (d_X8_isSet v2 M) = 0 then (1 : Int32) else (if (d_X8_isSet v3 M) = 0 then (1 : Int32) else (0 : Int32))))), 0))) := by rfl
set_option maxRecDepth 100000 in
theorem b_X8_slack_14 : (fun (v1 : Int32) (v2 : Int32) (v3 : Int32) (M : Mem) => run C_X8_slack 3 (40, [some (.ref 19), some (.int v1), some (.int v2), some (.int v3)], [], (sI M 19 15 (if (d_X8_isSet v1 M) = 0 then (1 : Int32) else (if (d_X8_isSet v2 M) = 0 then (1 : Int32) else (if (d_X8_isSet v3 M) = 0 then (1 : Int32) else (0 : Int32))))), 0)) = (fun (v1 : Int32) (v2 : Int32) (v3 : Int32) (M : Mem) => some (.inr (.inl (some (.int (0 : Int32))), (sI M 19 15 (if (d_X8_isSet v1 M) = 0 then (1 : Int32) else (if (d_X8_isSet v2 M) = 0 then (1 : Int32) else (if (d_X8_isSet v3 M) = 0 then (1 : Int32) else (0 : Int32))))), 0))) := by rfl
def d_X8_slack (v1 : Int32) (v2 : Int32) (v3 : Int32) (M : Mem) : Option (Res × Mem) := (if (if (d_X8_isSet v1 M) = 0 then (1 : Int32) else (if (d_X8_isSet v2 M) = 0 then (1 : Int32) else (if (d_X8_isSet v3 M) = 0 then (1 : Int32) else (0 : Int32)))) ≤ 0 then ((d_X8_differences v1 v2 (sI M 19 15 (if (d_X8_isSet v1 M) = 0 then (1 : Int32) else (if (d_X8_isSet v2 M) = 0 then (1 : Int32) else (if (d_X8_isSet v3 M) = 0 then (1 : Int32) else (0 : Int32)))))).bind fun w1 => ((d_X8_differences v2 v3 (sI M 19 15 (if (d_X8_isSet v1 M) = 0 then (1 : Int32) else (if (d_X8_isSet v2 M) = 0 then (1 : Int32) else (if (d_X8_isSet v3 M) = 0 then (1 : Int32) else (0 : Int32)))))).bind fun w2 => ((d_X8_differences v1 v3 (sI M 19 15 (if (d_X8_isSet v1 M) = 0 then (1 : Int32) else (if (d_X8_isSet v2 M) = 0 then (1 : Int32) else (if (d_X8_isSet v3 M) = 0 then (1 : Int32) else (0 : Int32)))))).bind fun w3 => (if inb v2 30 = true then ((d_X8_many (M.2 20 (ix v2))).bind fun w4 => some (.inl (some (.int ((w1 * w2) - (w3 * w4)))), (sI M 19 15 (if (d_X8_isSet v1 M) = 0 then (1 : Int32) else (if (d_X8_isSet v2 M) = 0 then (1 : Int32) else (if (d_X8_isSet v3 M) = 0 then (1 : Int32) else (0 : Int32))))))) else none)))) else some (.inl (some (.int (0 : Int32))), (sI M 19 15 (if (d_X8_isSet v1 M) = 0 then (1 : Int32) else (if (d_X8_isSet v2 M) = 0 then (1 : Int32) else (if (d_X8_isSet v3 M) = 0 then (1 : Int32) else (0 : Int32)))))))
set_option maxHeartbeats 2000000 in
theorem r_X8_slack (v1 : Int32) (v2 : Int32) (v3 : Int32) (M : Mem) : RG C_X8_slack (0, [some (.ref 19), some (.int v1), some (.int v2), some (.int v3)], [], M, 0) (d_X8_slack v1 v2 v3 M) (fun r => .inr r) := by
  unfold d_X8_slack
  refine RG.step (m_X8_slack_2 v1 v2 v3 M) ?_
  refine RG.st 4 (congrFun (congrFun (congrFun (congrFun b_X8_slack_7 v1) v2) v3) M) ?_
  refine RG.ite (fun h1 => RG.brT (q := 44) h1 rfl ?_) (fun h1 => RG.brF (q := 40) h1 rfl ?_)
  · refine RG.st 3 (congrFun (congrFun (congrFun (congrFun b_X8_slack_8 v1) v2) v3) M) ?_
    refine RG.bind (fun w1 h2 => RG.st 1 (run_callV (v := some (.int w1)) rfl rfl rfl rfl rfl (bindI h2)) ?_)
    show RG C_X8_slack (50, [some (.ref 19), some (.int v1), some (.int v2), some (.int v3)], [.int w1], (sI M 19 15 (if (d_X8_isSet v1 M) = 0 then (1 : Int32) else (if (d_X8_isSet v2 M) = 0 then (1 : Int32) else (if (d_X8_isSet v3 M) = 0 then (1 : Int32) else (0 : Int32))))), 0) _ _
    refine RG.st 3 (congrFun (congrFun (congrFun (congrFun (congrFun b_X8_slack_9 v1) v2) v3) M) w1) ?_
    refine RG.bind (fun w2 h3 => RG.st 1 (run_callV (v := some (.int w2)) rfl rfl rfl rfl rfl (bindI h3)) ?_)
    show RG C_X8_slack (56, [some (.ref 19), some (.int v1), some (.int v2), some (.int v3)], [.int w2, .int w1], (sI M 19 15 (if (d_X8_isSet v1 M) = 0 then (1 : Int32) else (if (d_X8_isSet v2 M) = 0 then (1 : Int32) else (if (d_X8_isSet v3 M) = 0 then (1 : Int32) else (0 : Int32))))), 0) _ _
    refine RG.st 4 (congrFun (congrFun (congrFun (congrFun (congrFun (congrFun b_X8_slack_10 v1) v2) v3) M) w1) w2) ?_
    refine RG.bind (fun w3 h4 => RG.st 1 (run_callV (v := some (.int w3)) rfl rfl rfl rfl rfl (bindI h4)) ?_)
    show RG C_X8_slack (63, [some (.ref 19), some (.int v1), some (.int v2), some (.int v3)], [.int w3, .int (w1 * w2)], (sI M 19 15 (if (d_X8_isSet v1 M) = 0 then (1 : Int32) else (if (d_X8_isSet v2 M) = 0 then (1 : Int32) else (if (d_X8_isSet v3 M) = 0 then (1 : Int32) else (0 : Int32))))), 0) _ _
    refine RG.st 3 (congrFun (congrFun (congrFun (congrFun (congrFun (congrFun (congrFun b_X8_slack_11 v1) v2) v3) M) w1) w2) w3) ?_
    refine RG.guard (fun h5 => RG.st 1 (stp_g h5 (congrFun (congrFun (congrFun (congrFun (congrFun (congrFun (congrFun b_X8_slack_12 v1) v2) v3) M) w1) w2) w3)) ?_)
    refine RG.bind (fun w4 h6 => RG.st 1 (run_callS (v := some (.int w4)) rfl rfl rfl rfl (show fn_X8_many [.long (M.2 20 (ix v2))] (sI M 19 15 (if (d_X8_isSet v1 M) = 0 then (1 : Int32) else (if (d_X8_isSet v2 M) = 0 then (1 : Int32) else (if (d_X8_isSet v3 M) = 0 then (1 : Int32) else (0 : Int32))))) = some (.inl (some (.int w4)), (sI M 19 15 (if (d_X8_isSet v1 M) = 0 then (1 : Int32) else (if (d_X8_isSet v2 M) = 0 then (1 : Int32) else (if (d_X8_isSet v3 M) = 0 then (1 : Int32) else (0 : Int32)))))) from by unfold fn_X8_many; exact bindI h6)) ?_)
    show RG C_X8_slack (72, [some (.ref 19), some (.int v1), some (.int v2), some (.int v3)], [.int w4, .int w3, .int (w1 * w2)], (sI M 19 15 (if (d_X8_isSet v1 M) = 0 then (1 : Int32) else (if (d_X8_isSet v2 M) = 0 then (1 : Int32) else (if (d_X8_isSet v3 M) = 0 then (1 : Int32) else (0 : Int32))))), 0) _ _
    exact RG.fin rfl (Rend.run 3 (congrFun (congrFun (congrFun (congrFun (congrFun (congrFun (congrFun (congrFun b_X8_slack_13 v1) v2) v3) M) w1) w2) w3) w4))
  · exact RG.fin rfl (Rend.run 3 (congrFun (congrFun (congrFun (congrFun b_X8_slack_14 v1) v2) v3) M))
def fn_X8_slack : Fn := fun av M => match av with
  | [.ref r0, .int v1, .int v2, .int v3] => bif Nat.beq r0 19 then (d_X8_slack v1 v2 v3 M) else (none)
  | _ => none
theorem cfg_X8_slack : CfgOK RX8 cX8_slack (C_X8_slack) 5 := ⟨tk_X8_slack, csF_nd, flk_X8, (List.forall_mem_cons.mpr ⟨Or.inr ⟨yX8_isSet, cX8_isSet, 2, (some .boolean), none, 2, ok_X8_isSet, by decide, by decide, w_code_SumsetryModel_isSet__I_Z, w_initialized_SumsetryModel, ⟨by decide, by decide⟩, Or.inr (Or.inr ⟨rfl, rfl, show (parseMethodDescriptor yX8_isSet.desc).map (fun d => d.parameters.length + 1) = some 2 from by decide +kernel, w_methodLink_SumsetryModel_96, w_instanceMethod_SumsetryModel_isSet__I_Z, w_selects_SumsetryModel_isSet__I_Z, ⟨_, rfl, rfl⟩⟩)⟩,
    List.forall_mem_cons.mpr ⟨Or.inr ⟨yX8_many, cX8_many, 4, (some .int), none, 2, ok_X8_many, by decide, by decide, w_code_SumsetryModel_many__J_I, w_initialized_SumsetryModel, ⟨by decide, by decide⟩, Or.inl ⟨rfl, show (parseMethodDescriptor yX8_many.desc).map (fun d => d.parameters.length) = some 1 from by decide +kernel, w_methodLink_SumsetryModel_115, w_static_SumsetryModel_many__J_I⟩⟩,
    List.forall_mem_cons.mpr ⟨Or.inr ⟨yX8_differences, cX8_differences, 3, (some .int), none, 4, ok_X8_differences, by decide, by decide, w_code_SumsetryModel_differences__II_I, w_initialized_SumsetryModel, ⟨by decide, by decide⟩, Or.inr (Or.inr ⟨rfl, rfl, show (parseMethodDescriptor yX8_differences.desc).map (fun d => d.parameters.length + 1) = some 3 from by decide +kernel, w_methodLink_SumsetryModel_118, w_instanceMethod_SumsetryModel_differences__II_I, w_selects_SumsetryModel_differences__II_I, ⟨_, rfl, rfl⟩⟩)⟩, fun _ h => absurd h List.not_mem_nil⟩⟩⟩), ink_X8, lgk_X8, fun e h => absurd h List.not_mem_nil, (fun h hh => absurd hh List.not_mem_nil)⟩
theorem ok_X8_slack : OkM csF yX8_slack (Cond.code yX8_slack cX8_slack 4 (some .int)) 5 0 fn_X8_slack :=
  OkM_of (own := RX8) (C := C_X8_slack) (by decide +kernel) rfl (cfg_X8_slack) rfl rfl rfl rfl (by
    intro av M o M' h
    unfold fn_X8_slack at h
    split at h
    · rename_i r0 v1 v2 v3
      rcases bif_cs h with ⟨hb, h⟩ | ⟨-, h⟩
      · skip
        have hr0 := hb
        obtain rfl := Nat.eq_of_beq_eq_true hr0
        exact ⟨rfl, Nat.le_of_ble_eq_true rfl, (r_X8_slack v1 v2 v3 M) (o, M') h⟩
      · cases h
    · cases h)
def t_X8_cover : List (Nat × Instr × Nat) := [(0, .aload_n 0, 1), (1, .iload_n 1, 1), (2, .iload_n 2, 1), (3, .invokevirtual 107, 3), (6, .ifCond .ne 5, 3), (9, .lconst 0, 1), (10, .lreturn, 1), (11, .lconst 0, 1), (12, .lstore_n 3, 1), (13, .lconst 0, 1), (14, .lstore 5, 2), (16, .iconst 0, 1), (17, .istore 7, 2), (19, .iload 7, 2), (21, .aload_n 0, 1), (22, .invokevirtual 49, 3), (25, .if_icmp .ge 63, 3), (28, .aload_n 0, 1), (29, .lconst 1, 1), (30, .iload 7, 2), (32, .lshl, 1), (33, .aload_n 0, 1), (34, .getfield 16, 3), (37, .iload_n 2, 1), (38, .laload, 1), (39, .invokevirtual 99, 3), (42, .lstore 8, 2), (44, .aload_n 0, 1), (45, .getfield 16, 3), (48, .iload_n 1, 1), (49, .laload, 1), (50, .iload 7, 2), (52, .invokestatic 60, 3), (55, .ifCond .eq 27, 3), (58, .lload 8, 2), (60, .lload 5, 2), (62, .land, 1), (63, .lconst 0, 1), (64, .lcmp, 1), (65, .ifCond .ne 17, 3), (68, .lload_n 3, 1), (69, .lconst 1, 1), (70, .iload 7, 2), (72, .lshl, 1), (73, .lor, 1), (74, .lstore_n 3, 1), (75, .lload 5, 2), (77, .lload 8, 2), (79, .lor, 1), (80, .lstore 5, 2), (82, .iinc 7 1, 3), (85, .goto (-66), 3), (88, .lload_n 3, 1), (89, .lreturn, 1)]
theorem tk_X8_cover : ∀ x ∈ t_X8_cover, decode cX8_cover x.1 = .ok x.2 := by decide +kernel
def C_X8_cover : Cfg := (t_X8_cover, csF, fl_X8, [(49, 2, 6, 1, 0, fn_X8_size), (60, 0, 6, 2, 0, fn_X8_has), (99, 2, 6, 3, 0, fn_X8_sumOf), (107, 2, 6, 3, 0, fn_X8_areSets)], in_X8, lg_X8, [], [], none, (some .long), 0)
set_option maxRecDepth 100000 in
theorem b_X8_cover_0 : (fun (v1 : Int32) (v2 : Int32) (M : Mem) => run C_X8_cover 3 (0, [some (.ref 19), some (.int v1), some (.int v2), none, none, none, none, none, none, none], [], M, 0)) = (fun (v1 : Int32) (v2 : Int32) (M : Mem) => some (.inl (3, [some (.ref 19), some (.int v1), some (.int v2), none, none, none, none, none, none, none], [.int v2, .int v1, .ref 19], M, 0))) := by rfl
set_option maxRecDepth 100000 in
theorem b_X8_cover_1 : (fun (v1 : Int32) (v2 : Int32) (w2 : Int32) (M1 : Mem) => run C_X8_cover 1 (6, [some (.ref 19), some (.int v1), some (.int v2), none, none, none, none, none, none, none], [.int w2], M1, 0)) = (fun (v1 : Int32) (v2 : Int32) (w2 : Int32) (M1 : Mem) => some (.inl ((br (!decide (w2 = 0)) 6 3 (5)), [some (.ref 19), some (.int v1), some (.int v2), none, none, none, none, none, none, none], [], M1, 0))) := by rfl
set_option maxRecDepth 100000 in
theorem b_X8_cover_2 : (fun (v1 : Int32) (v2 : Int32) (M1 : Mem) => run C_X8_cover 2 (9, [some (.ref 19), some (.int v1), some (.int v2), none, none, none, none, none, none, none], [], M1, 0)) = (fun (v1 : Int32) (v2 : Int32) (M1 : Mem) => some (.inr (.inl (some (.long (0 : Int64))), M1, 0))) := by rfl
set_option maxRecDepth 100000 in
theorem b_X8_cover_3 : (fun (v1 : Int32) (v2 : Int32) (M1 : Mem) => run C_X8_cover 6 (11, [some (.ref 19), some (.int v1), some (.int v2), none, none, none, none, none, none, none], [], M1, 0)) = (fun (v1 : Int32) (v2 : Int32) (M1 : Mem) => some (.inl (19, [some (.ref 19), some (.int v1), some (.int v2), some (.long (0 : Int64)), none, some (.long (0 : Int64)), none, some (.int (0 : Int32)), none, none], [], M1, 0))) := by rfl
set_option maxRecDepth 100000 in
theorem b_X8_cover_4 : (fun (v1 : Int32) (v2 : Int32) (M1 : Mem) (a1 : (Int64 × Int64 × Int32)) => run C_X8_cover 4 (19, [some (.ref 19), some (.int v1), some (.int v2), some (.long a1.1), none, some (.long a1.2.1), none, some (.int a1.2.2), none, none], [], M1, 0)) = (fun (v1 : Int32) (v2 : Int32) (M1 : Mem) (a1 : (Int64 × Int64 × Int32)) => some (.inl ((br (!decide (a1.2.2 < (d_X8_size M1))) 25 3 (63)), [some (.ref 19), some (.int v1), some (.int v2), some (.long a1.1), none, some (.long a1.2.1), none, some (.int a1.2.2), none, none], [], M1, 0))) := by rfl
set_option maxRecDepth 100000 in
theorem b_X8_cover_5 : (fun (v1 : Int32) (v2 : Int32) (M1 : Mem) (a1 : (Int64 × Int64 × Int32)) => run C_X8_cover 7 (28, [some (.ref 19), some (.int v1), some (.int v2), some (.long a1.1), none, some (.long a1.2.1), none, some (.int a1.2.2), none, none], [], M1, 0)) = (fun (v1 : Int32) (v2 : Int32) (M1 : Mem) (a1 : (Int64 × Int64 × Int32)) => some (.inl (38, [some (.ref 19), some (.int v1), some (.int v2), some (.long a1.1), none, some (.long a1.2.1), none, some (.int a1.2.2), none, none], [.int v2, .ref 20, .long (jshl (1 : Int64) a1.2.2), .ref 19], M1, 0))) := by rfl
set_option maxRecDepth 100000 in
theorem b_X8_cover_6 : (fun (v1 : Int32) (v2 : Int32) (M1 : Mem) (a1 : (Int64 × Int64 × Int32)) => stp C_X8_cover (38, [some (.ref 19), some (.int v1), some (.int v2), some (.long a1.1), none, some (.long a1.2.1), none, some (.int a1.2.2), none, none], [.int v2, .ref 20, .long (jshl (1 : Int64) a1.2.2), .ref 19], M1, 0)) = (fun (v1 : Int32) (v2 : Int32) (M1 : Mem) (a1 : (Int64 × Int64 × Int32)) => (if inb v2 30 = true then some (.inl (39, [some (.ref 19), some (.int v1), some (.int v2), some (.long a1.1), none, some (.long a1.2.1), none, some (.int a1.2.2), none, none], [.long (M1.2 20 (ix v2)), .long (jshl (1 : Int64) a1.2.2), .ref 19], M1, 0)) else none)) := by rfl
set_option maxRecDepth 100000 in
theorem b_X8_cover_7 : (fun (v1 : Int32) (v2 : Int32) (M1 : Mem) (a1 : (Int64 × Int64 × Int32)) (w3 : Int64) => run C_X8_cover 4 (42, [some (.ref 19), some (.int v1), some (.int v2), some (.long a1.1), none, some (.long a1.2.1), none, some (.int a1.2.2), none, none], [.long w3], M1, 0)) = (fun (v1 : Int32) (v2 : Int32) (M1 : Mem) (a1 : (Int64 × Int64 × Int32)) (w3 : Int64) => some (.inl (49, [some (.ref 19), some (.int v1), some (.int v2), some (.long a1.1), none, some (.long a1.2.1), none, some (.int a1.2.2), some (.long w3), none], [.int v1, .ref 20], M1, 0))) := by rfl
set_option maxRecDepth 100000 in
theorem b_X8_cover_8 : (fun (v1 : Int32) (v2 : Int32) (M1 : Mem) (a1 : (Int64 × Int64 × Int32)) (w3 : Int64) => stp C_X8_cover (49, [some (.ref 19), some (.int v1), some (.int v2), some (.long a1.1), none, some (.long a1.2.1), none, some (.int a1.2.2), some (.long w3), none], [.int v1, .ref 20], M1, 0)) = (fun (v1 : Int32) (v2 : Int32) (M1 : Mem) (a1 : (Int64 × Int64 × Int32)) (w3 : Int64) => (if inb v1 30 = true then some (.inl (50, [some (.ref 19), some (.int v1), some (.int v2), some (.long a1.1), none, some (.long a1.2.1), none, some (.int a1.2.2), some (.long w3), none], [.long (M1.2 20 (ix v1))], M1, 0)) else none)) := by rfl
set_option maxRecDepth 100000 in
theorem b_X8_cover_9 : (fun (v1 : Int32) (v2 : Int32) (M1 : Mem) (a1 : (Int64 × Int64 × Int32)) (w3 : Int64) => run C_X8_cover 3 (50, [some (.ref 19), some (.int v1), some (.int v2), some (.long a1.1), none, some (.long a1.2.1), none, some (.int a1.2.2), some (.long w3), none], [.long (M1.2 20 (ix v1))], M1, 0)) = (fun (v1 : Int32) (v2 : Int32) (M1 : Mem) (a1 : (Int64 × Int64 × Int32)) (w3 : Int64) => some (.inl ((br (decide ((d_X8_has (M1.2 20 (ix v1)) a1.2.2) = 0)) 55 3 (27)), [some (.ref 19), some (.int v1), some (.int v2), some (.long a1.1), none, some (.long a1.2.1), none, some (.int a1.2.2), some (.long w3), none], [], M1, 0))) := by rfl
set_option maxRecDepth 100000 in
theorem b_X8_cover_10 : (fun (v1 : Int32) (v2 : Int32) (M1 : Mem) (a1 : (Int64 × Int64 × Int32)) (w3 : Int64) => run C_X8_cover 6 (58, [some (.ref 19), some (.int v1), some (.int v2), some (.long a1.1), none, some (.long a1.2.1), none, some (.int a1.2.2), some (.long w3), none], [], M1, 0)) = (fun (v1 : Int32) (v2 : Int32) (M1 : Mem) (a1 : (Int64 × Int64 × Int32)) (w3 : Int64) => some (.inl ((br (!decide ((lg_cmp (w3 &&& a1.2.1) (0 : Int64)) = 0)) 65 3 (17)), [some (.ref 19), some (.int v1), some (.int v2), some (.long a1.1), none, some (.long a1.2.1), none, some (.int a1.2.2), some (.long w3), none], [], M1, 0))) := by rfl
set_option maxRecDepth 100000 in
theorem b_X8_cover_11 : (fun (v1 : Int32) (v2 : Int32) (M1 : Mem) (a1 : (Int64 × Int64 × Int32)) (w3 : Int64) => run C_X8_cover 10 (68, [some (.ref 19), some (.int v1), some (.int v2), some (.long a1.1), none, some (.long a1.2.1), none, some (.int a1.2.2), some (.long w3), none], [], M1, 0)) = (fun (v1 : Int32) (v2 : Int32) (M1 : Mem) (a1 : (Int64 × Int64 × Int32)) (w3 : Int64) => some (.inl (82, [some (.ref 19), some (.int v1), some (.int v2), some (.long (a1.1 ||| (jshl (1 : Int64) a1.2.2))), none, some (.long (a1.2.1 ||| w3)), none, some (.int a1.2.2), some (.long w3), none], [], M1, 0))) := by rfl
theorem m_X8_cover_0 (v1 : Int32) (v2 : Int32) (M1 : Mem) (a1 : (Int64 × Int64 × Int32)) (w3 : Int64) : Rto C_X8_cover (58, [some (.ref 19), some (.int v1), some (.int v2), some (.long a1.1), none, some (.long a1.2.1), none, some (.int a1.2.2), some (.long w3), none], [], M1, 0) (82, [some (.ref 19), some (.int v1), some (.int v2), some (.long (if (lg_cmp (w3 &&& a1.2.1) (0 : Int64)) = 0 then (a1.1 ||| (jshl (1 : Int64) a1.2.2)) else a1.1)), none, some (.long (if (lg_cmp (w3 &&& a1.2.1) (0 : Int64)) = 0 then (a1.2.1 ||| w3) else a1.2.1)), none, some (.int a1.2.2), some (.long w3), none], [], M1, 0) := by
  refine Rto.trans (Rto.run 6 (congrFun (congrFun (congrFun (congrFun (congrFun b_X8_cover_10 v1) v2) M1) a1) w3)) ?_
  by_cases h : (lg_cmp (w3 &&& a1.2.1) (0 : Int64)) = 0
  · refine Rto.trans (Rto.brNF (q := 68) h rfl) ?_
    refine Rto.trans (Rto.run 10 (congrFun (congrFun (congrFun (congrFun (congrFun b_X8_cover_11 v1) v2) M1) a1) w3)) ?_
    exact Rto.eq (by first | (simp only [if_pos h]; done) | rfl | exact absurd rfl h | (simp; done))
  · refine Rto.trans (Rto.brNT (q := 82) h rfl) ?_
    exact Rto.eq (by first | (simp only [if_neg h]; done) | rfl | exact absurd rfl h | (simp; done))
theorem m_X8_cover_1 (v1 : Int32) (v2 : Int32) (M1 : Mem) (a1 : (Int64 × Int64 × Int32)) (w3 : Int64) : Rto C_X8_cover (50, [some (.ref 19), some (.int v1), some (.int v2), some (.long a1.1), none, some (.long a1.2.1), none, some (.int a1.2.2), some (.long w3), none], [.long (M1.2 20 (ix v1))], M1, 0) (82, [some (.ref 19), some (.int v1), some (.int v2), some (.long (if (d_X8_has (M1.2 20 (ix v1)) a1.2.2) = 0 then a1.1 else (if (lg_cmp (w3 &&& a1.2.1) (0 : Int64)) = 0 then (a1.1 ||| (jshl (1 : Int64) a1.2.2)) else a1.1))), none, some (.long (if (d_X8_has (M1.2 20 (ix v1)) a1.2.2) = 0 then a1.2.1 else (if (lg_cmp (w3 &&& a1.2.1) (0 : Int64)) = 0 then (a1.2.1 ||| w3) else a1.2.1))), none, some (.int a1.2.2), some (.long w3), none], [], M1, 0) := by
  refine Rto.trans (Rto.run 3 (congrFun (congrFun (congrFun (congrFun (congrFun b_X8_cover_9 v1) v2) M1) a1) w3)) ?_
  by_cases h : (d_X8_has (M1.2 20 (ix v1)) a1.2.2) = 0
  · refine Rto.trans (Rto.brT (q := 82) h rfl) ?_
    exact Rto.eq (by first | (simp only [if_pos h]; done) | rfl | exact absurd rfl h | (simp; done))
  · refine Rto.trans (Rto.brF (q := 58) h rfl) ?_
    refine Rto.trans (m_X8_cover_0 v1 v2 M1 a1 w3) ?_
    exact Rto.eq (by first | (simp only [if_neg h]; done) | rfl | exact absurd rfl h | (simp; done))
set_option maxRecDepth 100000 in
theorem b_X8_cover_12 : (fun (v1 : Int32) (v2 : Int32) (M1 : Mem) (a1 : (Int64 × Int64 × Int32)) (w3 : Int64) => run C_X8_cover 2 (82, [some (.ref 19), some (.int v1), some (.int v2), some (.long (if (d_X8_has (M1.2 20 (ix v1)) a1.2.2) = 0 then a1.1 else (if (lg_cmp (w3 &&& a1.2.1) (0 : Int64)) = 0 then (a1.1 ||| (jshl (1 : Int64) a1.2.2)) else a1.1))), none, some (.long (if (d_X8_has (M1.2 20 (ix v1)) a1.2.2) = 0 then a1.2.1 else (if (lg_cmp (w3 &&& a1.2.1) (0 : Int64)) = 0 then (a1.2.1 ||| w3) else a1.2.1))), none, some (.int a1.2.2), some (.long w3), none], [], M1, 0)) = (fun (v1 : Int32) (v2 : Int32) (M1 : Mem) (a1 : (Int64 × Int64 × Int32)) (w3 : Int64) => some (.inl (19, [some (.ref 19), some (.int v1), some (.int v2), some (.long (if (d_X8_has (M1.2 20 (ix v1)) a1.2.2) = 0 then a1.1 else (if (lg_cmp (w3 &&& a1.2.1) (0 : Int64)) = 0 then (a1.1 ||| (jshl (1 : Int64) a1.2.2)) else a1.1))), none, some (.long (if (d_X8_has (M1.2 20 (ix v1)) a1.2.2) = 0 then a1.2.1 else (if (lg_cmp (w3 &&& a1.2.1) (0 : Int64)) = 0 then (a1.2.1 ||| w3) else a1.2.1))), none, some (.int (a1.2.2 + (1 : Int32))), some (.long w3), none], [], M1, 0))) := by rfl
def g_X8_cover_1 (v1 : Int32) (v2 : Int32) (M1 : Mem) : Int64 × Int64 × Int32 → Option ((Int64 × Int64 × Int32) ⊕ ((Int64 × Int64 × Int32) ⊕ (Res × Mem))) := fun (a1 : Int64 × Int64 × Int32) => (if a1.2.2 < (d_X8_size M1) then (if inb v2 30 = true then ((d_X8_sumOf (jshl (1 : Int64) a1.2.2) (M1.2 20 (ix v2)) M1).bind fun w3 => (if inb v1 30 = true then some (.inl ((if (d_X8_has (M1.2 20 (ix v1)) a1.2.2) = 0 then a1.1 else (if (lg_cmp (w3 &&& a1.2.1) (0 : Int64)) = 0 then (a1.1 ||| (jshl (1 : Int64) a1.2.2)) else a1.1)), (if (d_X8_has (M1.2 20 (ix v1)) a1.2.2) = 0 then a1.2.1 else (if (lg_cmp (w3 &&& a1.2.1) (0 : Int64)) = 0 then (a1.2.1 ||| w3) else a1.2.1)), (a1.2.2 + (1 : Int32)))) else none)) else none) else some (.inr (.inl (a1.1, a1.2.1, a1.2.2))))
set_option maxHeartbeats 2000000 in
theorem l_X8_cover_1 (v1 : Int32) (v2 : Int32) (M : Mem) (M1 : Mem) : ∀ a1 : Int64 × Int64 × Int32, RG C_X8_cover ((fun (a1 : Int64 × Int64 × Int32) => (19, [some (.ref 19), some (.int v1), some (.int v2), some (.long a1.1), none, some (.long a1.2.1), none, some (.int a1.2.2), none, none], [], M1, 0)) a1) (g_X8_cover_1 v1 v2 M1 a1) (lpP (fun (a1 : Int64 × Int64 × Int32) => (19, [some (.ref 19), some (.int v1), some (.int v2), some (.long a1.1), none, some (.long a1.2.1), none, some (.int a1.2.2), none, none], [], M1, 0)) (fun (a1 : Int64 × Int64 × Int32) => (88, [some (.ref 19), some (.int v1), some (.int v2), some (.long a1.1), none, some (.long a1.2.1), none, some (.int a1.2.2), none, none], [], M1, 0)) id) := by
  intro a1
  unfold g_X8_cover_1
  show RG C_X8_cover (19, [some (.ref 19), some (.int v1), some (.int v2), some (.long a1.1), none, some (.long a1.2.1), none, some (.int a1.2.2), none, none], [], M1, 0) _ _
  refine RG.st 4 (congrFun (congrFun (congrFun (congrFun b_X8_cover_4 v1) v2) M1) a1) ?_
  refine RG.ite (fun h3 => RG.brNF (q := 28) h3 rfl ?_) (fun h3 => RG.brNT (q := 88) h3 rfl ?_)
  · refine RG.st 7 (congrFun (congrFun (congrFun (congrFun b_X8_cover_5 v1) v2) M1) a1) ?_
    refine RG.guard (fun h4 => RG.st 1 (stp_g h4 (congrFun (congrFun (congrFun (congrFun b_X8_cover_6 v1) v2) M1) a1)) ?_)
    refine RG.bind (fun w3 h5 => RG.st 1 (run_callV (v := some (.long w3)) rfl rfl rfl rfl rfl (bindL h5)) ?_)
    show RG C_X8_cover (42, [some (.ref 19), some (.int v1), some (.int v2), some (.long a1.1), none, some (.long a1.2.1), none, some (.int a1.2.2), none, none], [.long w3], M1, 0) _ _
    refine RG.st 4 (congrFun (congrFun (congrFun (congrFun (congrFun b_X8_cover_7 v1) v2) M1) a1) w3) ?_
    refine RG.guard (fun h6 => RG.st 1 (stp_g h6 (congrFun (congrFun (congrFun (congrFun (congrFun b_X8_cover_8 v1) v2) M1) a1) w3)) ?_)
    refine RG.step (m_X8_cover_1 v1 v2 M1 a1 w3) ?_
    refine RG.st 2 (congrFun (congrFun (congrFun (congrFun (congrFun b_X8_cover_12 v1) v2) M1) a1) w3) ?_
    exact RG.to rfl (Rto.fgt [8] rfl)
  · exact RG.to rfl (Rto.refl _)
set_option maxRecDepth 100000 in
theorem b_X8_cover_13 : (fun (v1 : Int32) (v2 : Int32) (M1 : Mem) (a2 : (Int64 × Int64 × Int32)) => run C_X8_cover 2 (88, [some (.ref 19), some (.int v1), some (.int v2), some (.long a2.1), none, some (.long a2.2.1), none, some (.int a2.2.2), none, none], [], M1, 0)) = (fun (v1 : Int32) (v2 : Int32) (M1 : Mem) (a2 : (Int64 × Int64 × Int32)) => some (.inr (.inl (some (.long a2.1)), M1, 0))) := by rfl
def d_X8_cover (v1 : Int32) (v2 : Int32) (M : Mem) : Option (Res × Mem) := (onI (d_X8_areSets v1 v2 M) (fun w2 M1 => (if w2 = 0 then some (.inl (some (.long (0 : Int64))), M1) else (onIt (iter (g_X8_cover_1 v1 v2 M1) 20000 ((0 : Int64), (0 : Int64), (0 : Int32))) (fun (a2 : Int64 × Int64 × Int32) => some (.inl (some (.long a2.1)), M1)) (fun r => some r)))) (fun r => some r))
set_option maxHeartbeats 2000000 in
theorem r_X8_cover (v1 : Int32) (v2 : Int32) (M : Mem) : RG C_X8_cover (0, [some (.ref 19), some (.int v1), some (.int v2), none, none, none, none, none, none, none], [], M, 0) (d_X8_cover v1 v2 M) (fun r => .inr r) := by
  unfold d_X8_cover
  refine RG.st 3 (congrFun (congrFun (congrFun b_X8_cover_0 v1) v2) M) ?_
  refine RG.callI (fun w2 M1 h1 => RG.st 1 (run_callV (v := (some (.int w2))) rfl rfl rfl rfl rfl h1) ?_) (fun E M1 h1 => RG.fin rfl (Rend.run 1 (run_callVx rfl rfl rfl rfl rfl h1 rfl)))
  show RG C_X8_cover (6, [some (.ref 19), some (.int v1), some (.int v2), none, none, none, none, none, none, none], [.int w2], M1, 0) _ _
  refine RG.st 1 (congrFun (congrFun (congrFun (congrFun b_X8_cover_1 v1) v2) w2) M1) ?_
  refine RG.ite (fun h2 => RG.brNF (q := 9) h2 rfl ?_) (fun h2 => RG.brNT (q := 11) h2 rfl ?_)
  · exact RG.fin rfl (Rend.run 2 (congrFun (congrFun (congrFun b_X8_cover_2 v1) v2) M1))
  · refine RG.st 6 (congrFun (congrFun (congrFun b_X8_cover_3 v1) v2) M1) ?_
    refine RG.loop (hd := (fun (a1 : Int64 × Int64 × Int32) => (19, [some (.ref 19), some (.int v1), some (.int v2), some (.long a1.1), none, some (.long a1.2.1), none, some (.int a1.2.2), none, none], [], M1, 0))) (ex := (fun (a1 : Int64 × Int64 × Int32) => (88, [some (.ref 19), some (.int v1), some (.int v2), some (.long a1.1), none, some (.long a1.2.1), none, some (.int a1.2.2), none, none], [], M1, 0))) (rt := id) (l_X8_cover_1 v1 v2 M M1) (fun a2 => ?_) (fun r v h => by cases h; rfl)
    show RG C_X8_cover (88, [some (.ref 19), some (.int v1), some (.int v2), some (.long a2.1), none, some (.long a2.2.1), none, some (.int a2.2.2), none, none], [], M1, 0) _ _
    exact RG.fin rfl (Rend.run 2 (congrFun (congrFun (congrFun (congrFun b_X8_cover_13 v1) v2) M1) a2))
def fn_X8_cover : Fn := fun av M => match av with
  | [.ref r0, .int v1, .int v2] => bif Nat.beq r0 19 then (d_X8_cover v1 v2 M) else (none)
  | _ => none
theorem cfg_X8_cover : CfgOK RX8 cX8_cover (C_X8_cover) 5 := ⟨tk_X8_cover, csF_nd, flk_X8, (List.forall_mem_cons.mpr ⟨Or.inr ⟨yX8_size, cX8_size, 1, (some .int), none, 1, ok_X8_size, by decide, by decide, w_code_SumsetryModel_size___I, w_initialized_SumsetryModel, ⟨by decide, by decide⟩, Or.inr (Or.inr ⟨rfl, rfl, show (parseMethodDescriptor yX8_size.desc).map (fun d => d.parameters.length + 1) = some 1 from by decide +kernel, w_methodLink_SumsetryModel_49, w_instanceMethod_SumsetryModel_size___I, w_selects_SumsetryModel_size___I, ⟨_, rfl, rfl⟩⟩)⟩,
    List.forall_mem_cons.mpr ⟨Or.inr ⟨yX8_has, cX8_has, 3, (some .boolean), none, 1, ok_X8_has, by decide, by decide, w_code_SumsetryModel_has__JI_Z, w_initialized_SumsetryModel, ⟨by decide, by decide⟩, Or.inl ⟨rfl, show (parseMethodDescriptor yX8_has.desc).map (fun d => d.parameters.length) = some 2 from by decide +kernel, w_methodLink_SumsetryModel_60, w_static_SumsetryModel_has__JI_Z⟩⟩,
    List.forall_mem_cons.mpr ⟨Or.inr ⟨yX8_sumOf, cX8_sumOf, 5, (some .long), none, 4, ok_X8_sumOf, by decide, by decide, w_code_SumsetryModel_sumOf__JJ_J, w_initialized_SumsetryModel, ⟨by decide, by decide⟩, Or.inr (Or.inr ⟨rfl, rfl, show (parseMethodDescriptor yX8_sumOf.desc).map (fun d => d.parameters.length + 1) = some 3 from by decide +kernel, w_methodLink_SumsetryModel_99, w_instanceMethod_SumsetryModel_sumOf__JJ_J, w_selects_SumsetryModel_sumOf__JJ_J, ⟨_, rfl, rfl⟩⟩)⟩,
    List.forall_mem_cons.mpr ⟨Or.inr ⟨yX8_areSets, cX8_areSets, 3, (some .boolean), none, 3, ok_X8_areSets, by decide, by decide, w_code_SumsetryModel_areSets__II_Z, w_initialized_SumsetryModel, ⟨by decide, by decide⟩, Or.inr (Or.inr ⟨rfl, rfl, show (parseMethodDescriptor yX8_areSets.desc).map (fun d => d.parameters.length + 1) = some 3 from by decide +kernel, w_methodLink_SumsetryModel_107, w_instanceMethod_SumsetryModel_areSets__II_Z, w_selects_SumsetryModel_areSets__II_Z, ⟨_, rfl, rfl⟩⟩)⟩, fun _ h => absurd h List.not_mem_nil⟩⟩⟩⟩), ink_X8, lgk_X8, fun e h => absurd h List.not_mem_nil, (fun h hh => absurd hh List.not_mem_nil)⟩
theorem ok_X8_cover : OkM csF yX8_cover (Cond.code yX8_cover cX8_cover 10 (some .long)) 5 0 fn_X8_cover :=
  OkM_of (own := RX8) (C := C_X8_cover) (by decide +kernel) rfl (cfg_X8_cover) rfl rfl rfl rfl (by
    intro av M o M' h
    unfold fn_X8_cover at h
    split at h
    · rename_i r0 v1 v2
      rcases bif_cs h with ⟨hb, h⟩ | ⟨-, h⟩
      · skip
        have hr0 := hb
        obtain rfl := Nat.eq_of_beq_eq_true hr0
        exact ⟨rfl, Nat.le_of_ble_eq_true rfl, (r_X8_cover v1 v2 M) (o, M') h⟩
      · cases h
    · cases h)
