/-! methods: X8_hasNoSteps, X8_isApart, X8_keepsRule, X8_isRule, X8_keeps -/
def t_X8_hasNoSteps : List (Nat × Instr × Nat) := [(0, .iconst 1, 1), (1, .istore_n 3, 1), (2, .iconst 0, 1), (3, .istore 4, 2), (5, .iload 4, 2), (7, .aload_n 0, 1), (8, .invokevirtual 49, 3), (11, .if_icmp .ge 123, 3), (14, .iconst 0, 1), (15, .istore 5, 2), (17, .iload 5, 2), (19, .iload 4, 2), (21, .if_icmp .ge 107, 3), (24, .lload_n 1, 1), (25, .iload 4, 2), (27, .invokestatic 60, 3), (30, .ifCond .eq 98, 3), (33, .iconst 0, 1), (34, .istore 6, 2), (36, .iload 6, 2), (38, .aload_n 0, 1), (39, .invokevirtual 49, 3), (42, .if_icmp .ge 80, 3), (45, .lload_n 1, 1), (46, .iload 5, 2), (48, .invokestatic 60, 3), (51, .ifCond .eq 71, 3), (54, .lload_n 1, 1), (55, .iload 6, 2), (57, .invokestatic 60, 3), (60, .ifCond .eq 21, 3), (63, .iload 6, 2), (65, .iload 4, 2), (67, .if_icmp .eq 14, 3), (70, .iload 6, 2), (72, .iload 5, 2), (74, .if_icmp .eq 7, 3), (77, .iconst 1, 1), (78, .goto 4, 3), (81, .iconst 0, 1), (82, .istore 7, 2), (84, .iload_n 3, 1), (85, .iload 7, 2), (87, .ifCond .eq 22, 3), (90, .aload_n 0, 1), (91, .iload 4, 2), (93, .iload 5, 2), (95, .invokevirtual 128, 3), (98, .aload_n 0, 1), (99, .iload 6, 2), (101, .iload 6, 2), (103, .invokevirtual 128, 3), (106, .if_icmp .eq 7, 3), (109, .iconst 1, 1), (110, .goto 4, 3), (113, .iconst 0, 1), (114, .iand, 1), (115, .istore_n 3, 1), (116, .iinc 6 1, 3), (119, .goto (-83), 3), (122, .iinc 5 1, 3), (125, .goto (-108), 3), (128, .iinc 4 1, 3), (131, .goto (-126), 3), (134, .iload_n 3, 1), (135, .ireturn, 1)]
theorem tk_X8_hasNoSteps : ∀ x ∈ t_X8_hasNoSteps, decode cX8_hasNoSteps x.1 = .ok x.2 := by decide +kernel
def C_X8_hasNoSteps : Cfg := (t_X8_hasNoSteps, csF, fl_X8, [(49, 2, 6, 1, 0, fn_X8_size), (60, 0, 6, 2, 0, fn_X8_has), (128, 2, 6, 3, 0, fn_X8_added)], in_X8, lg_X8, [], [], none, (some .boolean), 0)
set_option maxRecDepth 100000 in
theorem b_X8_hasNoSteps_0 : (fun (v1 : Int64) (M : Mem) => run C_X8_hasNoSteps 4 (0, [some (.ref 19), some (.long v1), none, none, none, none, none, none], [], M, 0)) = (fun (v1 : Int64) (M : Mem) => some (.inl (5, [some (.ref 19), some (.long v1), none, some (.int (1 : Int32)), some (.int (0 : Int32)), none, none, none], [], M, 0))) := by rfl
set_option maxRecDepth 100000 in
theorem b_X8_hasNoSteps_1 : (fun (v1 : Int64) (M : Mem) (a1 : (Int32 × Int32)) => run C_X8_hasNoSteps 4 (5, [some (.ref 19), some (.long v1), none, some (.int a1.1), some (.int a1.2), none, none, none], [], M, 0)) = (fun (v1 : Int64) (M : Mem) (a1 : (Int32 × Int32)) => some (.inl ((br (!decide (a1.2 < (d_X8_size M))) 11 3 (123)), [some (.ref 19), some (.long v1), none, some (.int a1.1), some (.int a1.2), none, none, none], [], M, 0))) := by rfl
set_option maxRecDepth 100000 in
theorem b_X8_hasNoSteps_2 : (fun (v1 : Int64) (M : Mem) (a1 : (Int32 × Int32)) => run C_X8_hasNoSteps 2 (14, [some (.ref 19), some (.long v1), none, some (.int a1.1), some (.int a1.2), none, none, none], [], M, 0)) = (fun (v1 : Int64) (M : Mem) (a1 : (Int32 × Int32)) => some (.inl (17, [some (.ref 19), some (.long v1), none, some (.int a1.1), some (.int a1.2), some (.int (0 : Int32)), none, none], [], M, 0))) := by rfl
set_option maxRecDepth 100000 in
theorem b_X8_hasNoSteps_3 : (fun (v1 : Int64) (M : Mem) (a1 : (Int32 × Int32)) (a2 : (Int32 × Int32)) => run C_X8_hasNoSteps 3 (17, [some (.ref 19), some (.long v1), none, some (.int a2.1), some (.int a1.2), some (.int a2.2), none, none], [], M, 0)) = (fun (v1 : Int64) (M : Mem) (a1 : (Int32 × Int32)) (a2 : (Int32 × Int32)) => some (.inl ((br (!decide (a2.2 < a1.2)) 21 3 (107)), [some (.ref 19), some (.long v1), none, some (.int a2.1), some (.int a1.2), some (.int a2.2), none, none], [], M, 0))) := by rfl
set_option maxRecDepth 100000 in
theorem b_X8_hasNoSteps_4 : (fun (v1 : Int64) (M : Mem) (a1 : (Int32 × Int32)) (a2 : (Int32 × Int32)) => run C_X8_hasNoSteps 4 (24, [some (.ref 19), some (.long v1), none, some (.int a2.1), some (.int a1.2), some (.int a2.2), none, none], [], M, 0)) = (fun (v1 : Int64) (M : Mem) (a1 : (Int32 × Int32)) (a2 : (Int32 × Int32)) => some (.inl ((br (decide ((d_X8_has v1 a1.2) = 0)) 30 3 (98)), [some (.ref 19), some (.long v1), none, some (.int a2.1), some (.int a1.2), some (.int a2.2), none, none], [], M, 0))) := by rfl
set_option maxRecDepth 100000 in
theorem b_X8_hasNoSteps_5 : (fun (v1 : Int64) (M : Mem) (a1 : (Int32 × Int32)) (a2 : (Int32 × Int32)) => run C_X8_hasNoSteps 2 (33, [some (.ref 19), some (.long v1), none, some (.int a2.1), some (.int a1.2), some (.int a2.2), none, none], [], M, 0)) = (fun (v1 : Int64) (M : Mem) (a1 : (Int32 × Int32)) (a2 : (Int32 × Int32)) => some (.inl (36, [some (.ref 19), some (.long v1), none, some (.int a2.1), some (.int a1.2), some (.int a2.2), some (.int (0 : Int32)), none], [], M, 0))) := by rfl
set_option maxRecDepth 100000 in
theorem b_X8_hasNoSteps_6 : (fun (v1 : Int64) (M : Mem) (a1 : (Int32 × Int32)) (a2 : (Int32 × Int32)) (a3 : (Int32 × Int32)) => run C_X8_hasNoSteps 4 (36, [some (.ref 19), some (.long v1), none, some (.int a3.1), some (.int a1.2), some (.int a2.2), some (.int a3.2), none], [], M, 0)) = (fun (v1 : Int64) (M : Mem) (a1 : (Int32 × Int32)) (a2 : (Int32 × Int32)) (a3 : (Int32 × Int32)) => some (.inl ((br (!decide (a3.2 < (d_X8_size M))) 42 3 (80)), [some (.ref 19), some (.long v1), none, some (.int a3.1), some (.int a1.2), some (.int a2.2), some (.int a3.2), none], [], M, 0))) := by rfl
set_option maxRecDepth 100000 in
theorem b_X8_hasNoSteps_7 : (fun (v1 : Int64) (M : Mem) (a1 : (Int32 × Int32)) (a2 : (Int32 × Int32)) (a3 : (Int32 × Int32)) => run C_X8_hasNoSteps 4 (45, [some (.ref 19), some (.long v1), none, some (.int a3.1), some (.int a1.2), some (.int a2.2), some (.int a3.2), none], [], M, 0)) = (fun (v1 : Int64) (M : Mem) (a1 : (Int32 × Int32)) (a2 : (Int32 × Int32)) (a3 : (Int32 × Int32)) => some (.inl ((br (decide ((d_X8_has v1 a2.2) = 0)) 51 3 (71)), [some (.ref 19), some (.long v1), none, some (.int a3.1), some (.int a1.2), some (.int a2.2), some (.int a3.2), none], [], M, 0))) := by rfl
set_option maxRecDepth 100000 in
theorem b_X8_hasNoSteps_8 : (fun (v1 : Int64) (M : Mem) (a1 : (Int32 × Int32)) (a2 : (Int32 × Int32)) (a3 : (Int32 × Int32)) => run C_X8_hasNoSteps 4 (54, [some (.ref 19), some (.long v1), none, some (.int a3.1), some (.int a1.2), some (.int a2.2), some (.int a3.2), none], [], M, 0)) = (fun (v1 : Int64) (M : Mem) (a1 : (Int32 × Int32)) (a2 : (Int32 × Int32)) (a3 : (Int32 × Int32)) => some (.inl ((br (decide ((d_X8_has v1 a3.2) = 0)) 60 3 (21)), [some (.ref 19), some (.long v1), none, some (.int a3.1), some (.int a1.2), some (.int a2.2), some (.int a3.2), none], [], M, 0))) := by rfl
set_option maxRecDepth 100000 in
theorem b_X8_hasNoSteps_9 : (fun (v1 : Int64) (M : Mem) (a1 : (Int32 × Int32)) (a2 : (Int32 × Int32)) (a3 : (Int32 × Int32)) => run C_X8_hasNoSteps 1 (81, [some (.ref 19), some (.long v1), none, some (.int a3.1), some (.int a1.2), some (.int a2.2), some (.int a3.2), none], [], M, 0)) = (fun (v1 : Int64) (M : Mem) (a1 : (Int32 × Int32)) (a2 : (Int32 × Int32)) (a3 : (Int32 × Int32)) => some (.inl (82, [some (.ref 19), some (.long v1), none, some (.int a3.1), some (.int a1.2), some (.int a2.2), some (.int a3.2), none], [.int (0 : Int32)], M, 0))) := by rfl
set_option maxRecDepth 100000 in
theorem b_X8_hasNoSteps_10 : (fun (v1 : Int64) (M : Mem) (a1 : (Int32 × Int32)) (a2 : (Int32 × Int32)) (a3 : (Int32 × Int32)) => run C_X8_hasNoSteps 3 (63, [some (.ref 19), some (.long v1), none, some (.int a3.1), some (.int a1.2), some (.int a2.2), some (.int a3.2), none], [], M, 0)) = (fun (v1 : Int64) (M : Mem) (a1 : (Int32 × Int32)) (a2 : (Int32 × Int32)) (a3 : (Int32 × Int32)) => some (.inl ((br (decide (a3.2 = a1.2)) 67 3 (14)), [some (.ref 19), some (.long v1), none, some (.int a3.1), some (.int a1.2), some (.int a2.2), some (.int a3.2), none], [], M, 0))) := by rfl
set_option maxRecDepth 100000 in
theorem b_X8_hasNoSteps_11 : (fun (v1 : Int64) (M : Mem) (a1 : (Int32 × Int32)) (a2 : (Int32 × Int32)) (a3 : (Int32 × Int32)) => run C_X8_hasNoSteps 1 (81, [some (.ref 19), some (.long v1), none, some (.int a3.1), some (.int a1.2), some (.int a2.2), some (.int a3.2), none], [], M, 0)) = (fun (v1 : Int64) (M : Mem) (a1 : (Int32 × Int32)) (a2 : (Int32 × Int32)) (a3 : (Int32 × Int32)) => some (.inl (82, [some (.ref 19), some (.long v1), none, some (.int a3.1), some (.int a1.2), some (.int a2.2), some (.int a3.2), none], [.int (0 : Int32)], M, 0))) := by rfl
set_option maxRecDepth 100000 in
theorem b_X8_hasNoSteps_12 : (fun (v1 : Int64) (M : Mem) (a1 : (Int32 × Int32)) (a2 : (Int32 × Int32)) (a3 : (Int32 × Int32)) => run C_X8_hasNoSteps 3 (70, [some (.ref 19), some (.long v1), none, some (.int a3.1), some (.int a1.2), some (.int a2.2), some (.int a3.2), none], [], M, 0)) = (fun (v1 : Int64) (M : Mem) (a1 : (Int32 × Int32)) (a2 : (Int32 × Int32)) (a3 : (Int32 × Int32)) => some (.inl ((br (decide (a3.2 = a2.2)) 74 3 (7)), [some (.ref 19), some (.long v1), none, some (.int a3.1), some (.int a1.2), some (.int a2.2), some (.int a3.2), none], [], M, 0))) := by rfl
set_option maxRecDepth 100000 in
theorem b_X8_hasNoSteps_13 : (fun (v1 : Int64) (M : Mem) (a1 : (Int32 × Int32)) (a2 : (Int32 × Int32)) (a3 : (Int32 × Int32)) => run C_X8_hasNoSteps 1 (81, [some (.ref 19), some (.long v1), none, some (.int a3.1), some (.int a1.2), some (.int a2.2), some (.int a3.2), none], [], M, 0)) = (fun (v1 : Int64) (M : Mem) (a1 : (Int32 × Int32)) (a2 : (Int32 × Int32)) (a3 : (Int32 × Int32)) => some (.inl (82, [some (.ref 19), some (.long v1), none, some (.int a3.1), some (.int a1.2), some (.int a2.2), some (.int a3.2), none], [.int (0 : Int32)], M, 0))) := by rfl
set_option maxRecDepth 100000 in
theorem b_X8_hasNoSteps_14 : (fun (v1 : Int64) (M : Mem) (a1 : (Int32 × Int32)) (a2 : (Int32 × Int32)) (a3 : (Int32 × Int32)) => run C_X8_hasNoSteps 2 (77, [some (.ref 19), some (.long v1), none, some (.int a3.1), some (.int a1.2), some (.int a2.2), some (.int a3.2), none], [], M, 0)) = (fun (v1 : Int64) (M : Mem) (a1 : (Int32 × Int32)) (a2 : (Int32 × Int32)) (a3 : (Int32 × Int32)) => some (.inl (82, [some (.ref 19), some (.long v1), none, some (.int a3.1), some (.int a1.2), some (.int a2.2), some (.int a3.2), none], [.int (1 : Int32)], M, 0))) := by rfl
theorem m_X8_hasNoSteps_0 (v1 : Int64) (M : Mem) (a1 : (Int32 × Int32)) (a2 : (Int32 × Int32)) (a3 : (Int32 × Int32)) : Rto C_X8_hasNoSteps (70, [some (.ref 19), some (.long v1), none, some (.int a3.1), some (.int a1.2), some (.int a2.2), some (.int a3.2), none], [], M, 0) (82, [some (.ref 19), some (.long v1), none, some (.int a3.1), some (.int a1.2), some (.int a2.2), some (.int a3.2), none], [.int (if a3.2 = a2.2 then (0 : Int32) else (1 : Int32))], M, 0) := by
  refine Rto.trans (Rto.run 3 (congrFun (congrFun (congrFun (congrFun (congrFun b_X8_hasNoSteps_12 v1) M) a1) a2) a3)) ?_
  by_cases h : a3.2 = a2.2
  · refine Rto.trans (Rto.brT (q := 81) h rfl) ?_
    refine Rto.trans (Rto.run 1 (congrFun (congrFun (congrFun (congrFun (congrFun b_X8_hasNoSteps_13 v1) M) a1) a2) a3)) ?_
    exact Rto.eq (by first | (simp only [if_pos h]; done) | rfl | exact absurd rfl h | (simp; done))
  · refine Rto.trans (Rto.brF (q := 77) h rfl) ?_
    refine Rto.trans (Rto.run 2 (congrFun (congrFun (congrFun (congrFun (congrFun b_X8_hasNoSteps_14 v1) M) a1) a2) a3)) ?_
    exact Rto.eq (by first | (simp only [if_neg h]; done) | rfl | exact absurd rfl h | (simp; done))
theorem m_X8_hasNoSteps_1 (v1 : Int64) (M : Mem) (a1 : (Int32 × Int32)) (a2 : (Int32 × Int32)) (a3 : (Int32 × Int32)) : Rto C_X8_hasNoSteps (63, [some (.ref 19), some (.long v1), none, some (.int a3.1), some (.int a1.2), some (.int a2.2), some (.int a3.2), none], [], M, 0) (82, [some (.ref 19), some (.long v1), none, some (.int a3.1), some (.int a1.2), some (.int a2.2), some (.int a3.2), none], [.int (if a3.2 = a1.2 then (0 : Int32) else (if a3.2 = a2.2 then (0 : Int32) else (1 : Int32)))], M, 0) := by
  refine Rto.trans (Rto.run 3 (congrFun (congrFun (congrFun (congrFun (congrFun b_X8_hasNoSteps_10 v1) M) a1) a2) a3)) ?_
  by_cases h : a3.2 = a1.2
  · refine Rto.trans (Rto.brT (q := 81) h rfl) ?_
    refine Rto.trans (Rto.run 1 (congrFun (congrFun (congrFun (congrFun (congrFun b_X8_hasNoSteps_11 v1) M) a1) a2) a3)) ?_
    exact Rto.eq (by first | (simp only [if_pos h]; done) | rfl | exact absurd rfl h | (simp; done))
  · refine Rto.trans (Rto.brF (q := 70) h rfl) ?_
    refine Rto.trans (m_X8_hasNoSteps_0 v1 M a1 a2 a3) ?_
    exact Rto.eq (by first | (simp only [if_neg h]; done) | rfl | exact absurd rfl h | (simp; done))
theorem m_X8_hasNoSteps_2 (v1 : Int64) (M : Mem) (a1 : (Int32 × Int32)) (a2 : (Int32 × Int32)) (a3 : (Int32 × Int32)) : Rto C_X8_hasNoSteps (54, [some (.ref 19), some (.long v1), none, some (.int a3.1), some (.int a1.2), some (.int a2.2), some (.int a3.2), none], [], M, 0) (82, [some (.ref 19), some (.long v1), none, some (.int a3.1), some (.int a1.2), some (.int a2.2), some (.int a3.2), none], [.int (if (d_X8_has v1 a3.2) = 0 then (0 : Int32) else (if a3.2 = a1.2 then (0 : Int32) else (if a3.2 = a2.2 then (0 : Int32) else (1 : Int32))))], M, 0) := by
  refine Rto.trans (Rto.run 4 (congrFun (congrFun (congrFun (congrFun (congrFun b_X8_hasNoSteps_8 v1) M) a1) a2) a3)) ?_
  by_cases h : (d_X8_has v1 a3.2) = 0
  · refine Rto.trans (Rto.brT (q := 81) h rfl) ?_
    refine Rto.trans (Rto.run 1 (congrFun (congrFun (congrFun (congrFun (congrFun b_X8_hasNoSteps_9 v1) M) a1) a2) a3)) ?_
    exact Rto.eq (by first | (simp only [if_pos h]; done) | rfl | exact absurd rfl h | (simp; done))
  · refine Rto.trans (Rto.brF (q := 63) h rfl) ?_
    refine Rto.trans (m_X8_hasNoSteps_1 v1 M a1 a2 a3) ?_
    exact Rto.eq (by first | (simp only [if_neg h]; done) | rfl | exact absurd rfl h | (simp; done))
set_option maxRecDepth 100000 in
theorem b_X8_hasNoSteps_15 : (fun (v1 : Int64) (M : Mem) (a1 : (Int32 × Int32)) (a2 : (Int32 × Int32)) (a3 : (Int32 × Int32)) => run C_X8_hasNoSteps 4 (82, [some (.ref 19), some (.long v1), none, some (.int a3.1), some (.int a1.2), some (.int a2.2), some (.int a3.2), none], [.int (if (d_X8_has v1 a3.2) = 0 then (0 : Int32) else (if a3.2 = a1.2 then (0 : Int32) else (if a3.2 = a2.2 then (0 : Int32) else (1 : Int32))))], M, 0)) = (fun (v1 : Int64) (M : Mem) (a1 : (Int32 × Int32)) (a2 : (Int32 × Int32)) (a3 : (Int32 × Int32)) => some (.inl ((br (decide ((if (d_X8_has v1 a3.2) = 0 then (0 : Int32) else (if a3.2 = a1.2 then (0 : Int32) else (if a3.2 = a2.2 then (0 : Int32) else (1 : Int32)))) = 0)) 87 3 (22)), [some (.ref 19), some (.long v1), none, some (.int a3.1), some (.int a1.2), some (.int a2.2), some (.int a3.2), some (.int (if (d_X8_has v1 a3.2) = 0 then (0 : Int32) else (if a3.2 = a1.2 then (0 : Int32) else (if a3.2 = a2.2 then (0 : Int32) else (1 : Int32)))))], [.int a3.1], M, 0))) := by rfl
set_option maxRecDepth 100000 in
theorem b_X8_hasNoSteps_16 : (fun (v1 : Int64) (M : Mem) (a1 : (Int32 × Int32)) (a2 : (Int32 × Int32)) (a3 : (Int32 × Int32)) => run C_X8_hasNoSteps 6 (109, [some (.ref 19), some (.long v1), none, some (.int a3.1), some (.int a1.2), some (.int a2.2), some (.int a3.2), some (.int (if (d_X8_has v1 a3.2) = 0 then (0 : Int32) else (if a3.2 = a1.2 then (0 : Int32) else (if a3.2 = a2.2 then (0 : Int32) else (1 : Int32)))))], [.int a3.1], M, 0)) = (fun (v1 : Int64) (M : Mem) (a1 : (Int32 × Int32)) (a2 : (Int32 × Int32)) (a3 : (Int32 × Int32)) => some (.inl (36, [some (.ref 19), some (.long v1), none, some (.int (a3.1 &&& (1 : Int32))), some (.int a1.2), some (.int a2.2), some (.int (a3.2 + (1 : Int32))), some (.int (if (d_X8_has v1 a3.2) = 0 then (0 : Int32) else (if a3.2 = a1.2 then (0 : Int32) else (if a3.2 = a2.2 then (0 : Int32) else (1 : Int32)))))], [], M, 0))) := by rfl
set_option maxRecDepth 100000 in
theorem b_X8_hasNoSteps_17 : (fun (v1 : Int64) (M : Mem) (a1 : (Int32 × Int32)) (a2 : (Int32 × Int32)) (a3 : (Int32 × Int32)) => run C_X8_hasNoSteps 3 (90, [some (.ref 19), some (.long v1), none, some (.int a3.1), some (.int a1.2), some (.int a2.2), some (.int a3.2), some (.int (if (d_X8_has v1 a3.2) = 0 then (0 : Int32) else (if a3.2 = a1.2 then (0 : Int32) else (if a3.2 = a2.2 then (0 : Int32) else (1 : Int32)))))], [.int a3.1], M, 0)) = (fun (v1 : Int64) (M : Mem) (a1 : (Int32 × Int32)) (a2 : (Int32 × Int32)) (a3 : (Int32 × Int32)) => some (.inl (95, [some (.ref 19), some (.long v1), none, some (.int a3.1), some (.int a1.2), some (.int a2.2), some (.int a3.2), some (.int (if (d_X8_has v1 a3.2) = 0 then (0 : Int32) else (if a3.2 = a1.2 then (0 : Int32) else (if a3.2 = a2.2 then (0 : Int32) else (1 : Int32)))))], [.int a2.2, .int a1.2, .ref 19, .int a3.1], M, 0))) := by rfl
set_option maxRecDepth 100000 in
theorem b_X8_hasNoSteps_18 : (fun (v1 : Int64) (M : Mem) (a1 : (Int32 × Int32)) (a2 : (Int32 × Int32)) (a3 : (Int32 × Int32)) (w1 : Int32) => run C_X8_hasNoSteps 3 (98, [some (.ref 19), some (.long v1), none, some (.int a3.1), some (.int a1.2), some (.int a2.2), some (.int a3.2), some (.int (if (d_X8_has v1 a3.2) = 0 then (0 : Int32) else (if a3.2 = a1.2 then (0 : Int32) else (if a3.2 = a2.2 then (0 : Int32) else (1 : Int32)))))], [.int w1, .int a3.1], M, 0)) = (fun (v1 : Int64) (M : Mem) (a1 : (Int32 × Int32)) (a2 : (Int32 × Int32)) (a3 : (Int32 × Int32)) (w1 : Int32) => some (.inl (103, [some (.ref 19), some (.long v1), none, some (.int a3.1), some (.int a1.2), some (.int a2.2), some (.int a3.2), some (.int (if (d_X8_has v1 a3.2) = 0 then (0 : Int32) else (if a3.2 = a1.2 then (0 : Int32) else (if a3.2 = a2.2 then (0 : Int32) else (1 : Int32)))))], [.int a3.2, .int a3.2, .ref 19, .int w1, .int a3.1], M, 0))) := by rfl
set_option maxRecDepth 100000 in
theorem b_X8_hasNoSteps_19 : (fun (v1 : Int64) (M : Mem) (a1 : (Int32 × Int32)) (a2 : (Int32 × Int32)) (a3 : (Int32 × Int32)) (w1 : Int32) (w2 : Int32) => run C_X8_hasNoSteps 1 (106, [some (.ref 19), some (.long v1), none, some (.int a3.1), some (.int a1.2), some (.int a2.2), some (.int a3.2), some (.int (if (d_X8_has v1 a3.2) = 0 then (0 : Int32) else (if a3.2 = a1.2 then (0 : Int32) else (if a3.2 = a2.2 then (0 : Int32) else (1 : Int32)))))], [.int w2, .int w1, .int a3.1], M, 0)) = (fun (v1 : Int64) (M : Mem) (a1 : (Int32 × Int32)) (a2 : (Int32 × Int32)) (a3 : (Int32 × Int32)) (w1 : Int32) (w2 : Int32) => some (.inl ((br (decide (w1 = w2)) 106 3 (7)), [some (.ref 19), some (.long v1), none, some (.int a3.1), some (.int a1.2), some (.int a2.2), some (.int a3.2), some (.int (if (d_X8_has v1 a3.2) = 0 then (0 : Int32) else (if a3.2 = a1.2 then (0 : Int32) else (if a3.2 = a2.2 then (0 : Int32) else (1 : Int32)))))], [.int a3.1], M, 0))) := by rfl
set_option maxRecDepth 100000 in
theorem b_X8_hasNoSteps_20 : (fun (v1 : Int64) (M : Mem) (a1 : (Int32 × Int32)) (a2 : (Int32 × Int32)) (a3 : (Int32 × Int32)) => run C_X8_hasNoSteps 1 (113, [some (.ref 19), some (.long v1), none, some (.int a3.1), some (.int a1.2), some (.int a2.2), some (.int a3.2), some (.int (if (d_X8_has v1 a3.2) = 0 then (0 : Int32) else (if a3.2 = a1.2 then (0 : Int32) else (if a3.2 = a2.2 then (0 : Int32) else (1 : Int32)))))], [.int a3.1], M, 0)) = (fun (v1 : Int64) (M : Mem) (a1 : (Int32 × Int32)) (a2 : (Int32 × Int32)) (a3 : (Int32 × Int32)) => some (.inl (114, [some (.ref 19), some (.long v1), none, some (.int a3.1), some (.int a1.2), some (.int a2.2), some (.int a3.2), some (.int (if (d_X8_has v1 a3.2) = 0 then (0 : Int32) else (if a3.2 = a1.2 then (0 : Int32) else (if a3.2 = a2.2 then (0 : Int32) else (1 : Int32)))))], [.int (0 : Int32), .int a3.1], M, 0))) := by rfl
set_option maxRecDepth 100000 in
theorem b_X8_hasNoSteps_21 : (fun (v1 : Int64) (M : Mem) (a1 : (Int32 × Int32)) (a2 : (Int32 × Int32)) (a3 : (Int32 × Int32)) => run C_X8_hasNoSteps 2 (109, [some (.ref 19), some (.long v1), none, some (.int a3.1), some (.int a1.2), some (.int a2.2), some (.int a3.2), some (.int (if (d_X8_has v1 a3.2) = 0 then (0 : Int32) else (if a3.2 = a1.2 then (0 : Int32) else (if a3.2 = a2.2 then (0 : Int32) else (1 : Int32)))))], [.int a3.1], M, 0)) = (fun (v1 : Int64) (M : Mem) (a1 : (Int32 × Int32)) (a2 : (Int32 × Int32)) (a3 : (Int32 × Int32)) => some (.inl (114, [some (.ref 19), some (.long v1), none, some (.int a3.1), some (.int a1.2), some (.int a2.2), some (.int a3.2), some (.int (if (d_X8_has v1 a3.2) = 0 then (0 : Int32) else (if a3.2 = a1.2 then (0 : Int32) else (if a3.2 = a2.2 then (0 : Int32) else (1 : Int32)))))], [.int (1 : Int32), .int a3.1], M, 0))) := by rfl
theorem m_X8_hasNoSteps_3 (v1 : Int64) (M : Mem) (a1 : (Int32 × Int32)) (a2 : (Int32 × Int32)) (a3 : (Int32 × Int32)) (w1 : Int32) (w2 : Int32) : Rto C_X8_hasNoSteps (106, [some (.ref 19), some (.long v1), none, some (.int a3.1), some (.int a1.2), some (.int a2.2), some (.int a3.2), some (.int (if (d_X8_has v1 a3.2) = 0 then (0 : Int32) else (if a3.2 = a1.2 then (0 : Int32) else (if a3.2 = a2.2 then (0 : Int32) else (1 : Int32)))))], [.int w2, .int w1, .int a3.1], M, 0) (114, [some (.ref 19), some (.long v1), none, some (.int a3.1), some (.int a1.2), some (.int a2.2), some (.int a3.2), some (.int (if (d_X8_has v1 a3.2) = 0 then (0 : Int32) else (if a3.2 = a1.2 then (0 : Int32) else (if a3.2 = a2.2 then (0 : Int32) else (1 : Int32)))))], [.int (if w1 = w2 then (0 : Int32) else (1 : Int32)), .int a3.1], M, 0) := by
  refine Rto.trans (Rto.run 1 (congrFun (congrFun (congrFun (congrFun (congrFun (congrFun (congrFun b_X8_hasNoSteps_19 v1) M) a1) a2) a3) w1) w2)) ?_
  by_cases h : w1 = w2
  · refine Rto.trans (Rto.brT (q := 113) h rfl) ?_
    refine Rto.trans (Rto.run 1 (congrFun (congrFun (congrFun (congrFun (congrFun b_X8_hasNoSteps_20 v1) M) a1) a2) a3)) ?_
    exact Rto.eq (by first | (simp only [if_pos h]; done) | rfl | exact absurd rfl h | (simp; done))
  · refine Rto.trans (Rto.brF (q := 109) h rfl) ?_
    refine Rto.trans (Rto.run 2 (congrFun (congrFun (congrFun (congrFun (congrFun b_X8_hasNoSteps_21 v1) M) a1) a2) a3)) ?_
    exact Rto.eq (by first | (simp only [if_neg h]; done) | rfl | exact absurd rfl h | (simp; done))
set_option maxRecDepth 100000 in
theorem b_X8_hasNoSteps_22 : (fun (v1 : Int64) (M : Mem) (a1 : (Int32 × Int32)) (a2 : (Int32 × Int32)) (a3 : (Int32 × Int32)) (w1 : Int32) (w2 : Int32) => run C_X8_hasNoSteps 4 (114, [some (.ref 19), some (.long v1), none, some (.int a3.1), some (.int a1.2), some (.int a2.2), some (.int a3.2), some (.int (if (d_X8_has v1 a3.2) = 0 then (0 : Int32) else (if a3.2 = a1.2 then (0 : Int32) else (if a3.2 = a2.2 then (0 : Int32) else (1 : Int32)))))], [.int (if w1 = w2 then (0 : Int32) else (1 : Int32)), .int a3.1], M, 0)) = (fun (v1 : Int64) (M : Mem) (a1 : (Int32 × Int32)) (a2 : (Int32 × Int32)) (a3 : (Int32 × Int32)) (w1 : Int32) (w2 : Int32) => some (.inl (36, [some (.ref 19), some (.long v1), none, some (.int (a3.1 &&& (if w1 = w2 then (0 : Int32) else (1 : Int32)))), some (.int a1.2), some (.int a2.2), some (.int (a3.2 + (1 : Int32))), some (.int (if (d_X8_has v1 a3.2) = 0 then (0 : Int32) else (if a3.2 = a1.2 then (0 : Int32) else (if a3.2 = a2.2 then (0 : Int32) else (1 : Int32)))))], [], M, 0))) := by rfl
def g_X8_hasNoSteps_3 (v1 : Int64) (M : Mem) (a1 : (Int32 × Int32)) (a2 : (Int32 × Int32)) : Int32 × Int32 → Option ((Int32 × Int32) ⊕ ((Int32 × Int32) ⊕ Int32)) := fun (a3 : Int32 × Int32) => (if a3.2 < (d_X8_size M) then (if (d_X8_has v1 a2.2) = 0 then some (.inr (.inl (a3.1, a3.2))) else (if (if (d_X8_has v1 a3.2) = 0 then (0 : Int32) else (if a3.2 = a1.2 then (0 : Int32) else (if a3.2 = a2.2 then (0 : Int32) else (1 : Int32)))) = 0 then some (.inl ((a3.1 &&& (1 : Int32)), (a3.2 + (1 : Int32)))) else ((d_X8_added a1.2 a2.2 M).bind fun w1 => ((d_X8_added a3.2 a3.2 M).bind fun w2 => some (.inl ((a3.1 &&& (if w1 = w2 then (0 : Int32) else (1 : Int32))), (a3.2 + (1 : Int32)))))))) else some (.inr (.inl (a3.1, a3.2))))
set_option maxHeartbeats 2000000 in
theorem l_X8_hasNoSteps_3 (v1 : Int64) (M : Mem) (a1 : (Int32 × Int32)) (a2 : (Int32 × Int32)) : ∀ a3 : Int32 × Int32, RG C_X8_hasNoSteps ((fun (a3 : Int32 × Int32) => (36, [some (.ref 19), some (.long v1), none, some (.int a3.1), some (.int a1.2), some (.int a2.2), some (.int a3.2), none], [], M, 0)) a3) (g_X8_hasNoSteps_3 v1 M a1 a2 a3) (lpP (fun (a3 : Int32 × Int32) => (36, [some (.ref 19), some (.long v1), none, some (.int a3.1), some (.int a1.2), some (.int a2.2), some (.int a3.2), none], [], M, 0)) (fun (a3 : Int32 × Int32) => (122, [some (.ref 19), some (.long v1), none, some (.int a3.1), some (.int a1.2), some (.int a2.2), some (.int a3.2), none], [], M, 0)) (fun (v : Int32) => (.inl (some (.int v)), M))) := by
  intro a3
  unfold g_X8_hasNoSteps_3
  show RG C_X8_hasNoSteps (36, [some (.ref 19), some (.long v1), none, some (.int a3.1), some (.int a1.2), some (.int a2.2), some (.int a3.2), none], [], M, 0) _ _
  refine RG.st 4 (congrFun (congrFun (congrFun (congrFun (congrFun b_X8_hasNoSteps_6 v1) M) a1) a2) a3) ?_
  refine RG.ite (fun h4 => RG.brNF (q := 45) h4 rfl ?_) (fun h4 => RG.brNT (q := 122) h4 rfl ?_)
  · refine RG.st 4 (congrFun (congrFun (congrFun (congrFun (congrFun b_X8_hasNoSteps_7 v1) M) a1) a2) a3) ?_
    refine RG.ite (fun h5 => RG.brT (q := 122) h5 rfl ?_) (fun h5 => RG.brF (q := 54) h5 rfl ?_)
    · exact RG.to rfl (Rto.refl _)
    · refine RG.step (m_X8_hasNoSteps_2 v1 M a1 a2 a3) ?_
      refine RG.st 4 (congrFun (congrFun (congrFun (congrFun (congrFun b_X8_hasNoSteps_15 v1) M) a1) a2) a3) ?_
      refine RG.ite (fun h6 => RG.brT (q := 109) h6 rfl ?_) (fun h6 => RG.brF (q := 90) h6 rfl ?_)
      · refine RG.st 6 (congrFun (congrFun (congrFun (congrFun (congrFun b_X8_hasNoSteps_16 v1) M) a1) a2) a3) ?_
        exact RG.to rfl (Rto.fgt [7] rfl)
      · refine RG.st 3 (congrFun (congrFun (congrFun (congrFun (congrFun b_X8_hasNoSteps_17 v1) M) a1) a2) a3) ?_
        refine RG.bind (fun w1 h7 => RG.st 1 (run_callV (v := some (.int w1)) rfl rfl rfl rfl rfl (bindI h7)) ?_)
        show RG C_X8_hasNoSteps (98, [some (.ref 19), some (.long v1), none, some (.int a3.1), some (.int a1.2), some (.int a2.2), some (.int a3.2), some (.int (if (d_X8_has v1 a3.2) = 0 then (0 : Int32) else (if a3.2 = a1.2 then (0 : Int32) else (if a3.2 = a2.2 then (0 : Int32) else (1 : Int32)))))], [.int w1, .int a3.1], M, 0) _ _
        refine RG.st 3 (congrFun (congrFun (congrFun (congrFun (congrFun (congrFun b_X8_hasNoSteps_18 v1) M) a1) a2) a3) w1) ?_
        refine RG.bind (fun w2 h8 => RG.st 1 (run_callV (v := some (.int w2)) rfl rfl rfl rfl rfl (bindI h8)) ?_)
        show RG C_X8_hasNoSteps (106, [some (.ref 19), some (.long v1), none, some (.int a3.1), some (.int a1.2), some (.int a2.2), some (.int a3.2), some (.int (if (d_X8_has v1 a3.2) = 0 then (0 : Int32) else (if a3.2 = a1.2 then (0 : Int32) else (if a3.2 = a2.2 then (0 : Int32) else (1 : Int32)))))], [.int w2, .int w1, .int a3.1], M, 0) _ _
        refine RG.step (m_X8_hasNoSteps_3 v1 M a1 a2 a3 w1 w2) ?_
        refine RG.st 4 (congrFun (congrFun (congrFun (congrFun (congrFun (congrFun (congrFun b_X8_hasNoSteps_22 v1) M) a1) a2) a3) w1) w2) ?_
        exact RG.to rfl (Rto.fgt [7] rfl)
  · exact RG.to rfl (Rto.refl _)
set_option maxRecDepth 100000 in
theorem b_X8_hasNoSteps_23 : (fun (v1 : Int64) (M : Mem) (a1 : (Int32 × Int32)) (a2 : (Int32 × Int32)) (a4 : (Int32 × Int32)) => run C_X8_hasNoSteps 2 (122, [some (.ref 19), some (.long v1), none, some (.int a4.1), some (.int a1.2), some (.int a2.2), some (.int a4.2), none], [], M, 0)) = (fun (v1 : Int64) (M : Mem) (a1 : (Int32 × Int32)) (a2 : (Int32 × Int32)) (a4 : (Int32 × Int32)) => some (.inl (17, [some (.ref 19), some (.long v1), none, some (.int a4.1), some (.int a1.2), some (.int (a2.2 + (1 : Int32))), some (.int a4.2), none], [], M, 0))) := by rfl
def g_X8_hasNoSteps_2 (v1 : Int64) (M : Mem) (a1 : (Int32 × Int32)) : Int32 × Int32 → Option ((Int32 × Int32) ⊕ ((Int32 × Int32) ⊕ Int32)) := fun (a2 : Int32 × Int32) => (if a2.2 < a1.2 then (if (d_X8_has v1 a1.2) = 0 then some (.inr (.inl (a2.1, a2.2))) else (onIt (iter (g_X8_hasNoSteps_3 v1 M a1 a2) 20000 (a2.1, (0 : Int32))) (fun (a4 : Int32 × Int32) => some (.inl (a4.1, (a2.2 + (1 : Int32))))) (fun r => some (.inr (.inr r))))) else some (.inr (.inl (a2.1, a2.2))))
set_option maxHeartbeats 2000000 in
theorem l_X8_hasNoSteps_2 (v1 : Int64) (M : Mem) (a1 : (Int32 × Int32)) : ∀ a2 : Int32 × Int32, RG C_X8_hasNoSteps ((fun (a2 : Int32 × Int32) => (17, [some (.ref 19), some (.long v1), none, some (.int a2.1), some (.int a1.2), some (.int a2.2), none, none], [], M, 0)) a2) (g_X8_hasNoSteps_2 v1 M a1 a2) (lpP (fun (a2 : Int32 × Int32) => (17, [some (.ref 19), some (.long v1), none, some (.int a2.1), some (.int a1.2), some (.int a2.2), none, none], [], M, 0)) (fun (a2 : Int32 × Int32) => (128, [some (.ref 19), some (.long v1), none, some (.int a2.1), some (.int a1.2), some (.int a2.2), none, none], [], M, 0)) (fun (v : Int32) => (.inl (some (.int v)), M))) := by
  intro a2
  unfold g_X8_hasNoSteps_2
  show RG C_X8_hasNoSteps (17, [some (.ref 19), some (.long v1), none, some (.int a2.1), some (.int a1.2), some (.int a2.2), none, none], [], M, 0) _ _
  refine RG.st 3 (congrFun (congrFun (congrFun (congrFun b_X8_hasNoSteps_3 v1) M) a1) a2) ?_
  refine RG.ite (fun h2 => RG.brNF (q := 24) h2 rfl ?_) (fun h2 => RG.brNT (q := 128) h2 rfl ?_)
  · refine RG.st 4 (congrFun (congrFun (congrFun (congrFun b_X8_hasNoSteps_4 v1) M) a1) a2) ?_
    refine RG.ite (fun h3 => RG.brT (q := 128) h3 rfl ?_) (fun h3 => RG.brF (q := 33) h3 rfl ?_)
    · exact RG.to rfl (Rto.refl _)
    · refine RG.st 2 (congrFun (congrFun (congrFun (congrFun b_X8_hasNoSteps_5 v1) M) a1) a2) ?_
      refine RG.loop (hd := (fun (a3 : Int32 × Int32) => (36, [some (.ref 19), some (.long v1), none, some (.int a3.1), some (.int a1.2), some (.int a2.2), some (.int a3.2), none], [], M, 0))) (ex := (fun (a3 : Int32 × Int32) => (122, [some (.ref 19), some (.long v1), none, some (.int a3.1), some (.int a1.2), some (.int a2.2), some (.int a3.2), none], [], M, 0))) (rt := (fun (v : Int32) => (.inl (some (.int v)), M))) (l_X8_hasNoSteps_3 v1 M a1 a2) (fun a4 => ?_) (fun r v h => by cases h; rfl)
      show RG C_X8_hasNoSteps (122, [some (.ref 19), some (.long v1), none, some (.int a4.1), some (.int a1.2), some (.int a2.2), some (.int a4.2), none], [], M, 0) _ _
      refine RG.st 2 (congrFun (congrFun (congrFun (congrFun (congrFun b_X8_hasNoSteps_23 v1) M) a1) a2) a4) ?_
      exact RG.to rfl (Rto.fgt [6] rfl)
  · exact RG.to rfl (Rto.refl _)
set_option maxRecDepth 100000 in
theorem b_X8_hasNoSteps_24 : (fun (v1 : Int64) (M : Mem) (a1 : (Int32 × Int32)) (a5 : (Int32 × Int32)) => run C_X8_hasNoSteps 2 (128, [some (.ref 19), some (.long v1), none, some (.int a5.1), some (.int a1.2), some (.int a5.2), none, none], [], M, 0)) = (fun (v1 : Int64) (M : Mem) (a1 : (Int32 × Int32)) (a5 : (Int32 × Int32)) => some (.inl (5, [some (.ref 19), some (.long v1), none, some (.int a5.1), some (.int (a1.2 + (1 : Int32))), some (.int a5.2), none, none], [], M, 0))) := by rfl
def g_X8_hasNoSteps_1 (v1 : Int64) (M : Mem) : Int32 × Int32 → Option ((Int32 × Int32) ⊕ ((Int32 × Int32) ⊕ Int32)) := fun (a1 : Int32 × Int32) => (if a1.2 < (d_X8_size M) then (onIt (iter (g_X8_hasNoSteps_2 v1 M a1) 20000 (a1.1, (0 : Int32))) (fun (a5 : Int32 × Int32) => some (.inl (a5.1, (a1.2 + (1 : Int32))))) (fun r => some (.inr (.inr r)))) else some (.inr (.inl (a1.1, a1.2))))
set_option maxHeartbeats 2000000 in
theorem l_X8_hasNoSteps_1 (v1 : Int64) (M : Mem) : ∀ a1 : Int32 × Int32, RG C_X8_hasNoSteps ((fun (a1 : Int32 × Int32) => (5, [some (.ref 19), some (.long v1), none, some (.int a1.1), some (.int a1.2), none, none, none], [], M, 0)) a1) (g_X8_hasNoSteps_1 v1 M a1) (lpP (fun (a1 : Int32 × Int32) => (5, [some (.ref 19), some (.long v1), none, some (.int a1.1), some (.int a1.2), none, none, none], [], M, 0)) (fun (a1 : Int32 × Int32) => (134, [some (.ref 19), some (.long v1), none, some (.int a1.1), some (.int a1.2), none, none, none], [], M, 0)) (fun (v : Int32) => (.inl (some (.int v)), M))) := by
  intro a1
  unfold g_X8_hasNoSteps_1
  show RG C_X8_hasNoSteps (5, [some (.ref 19), some (.long v1), none, some (.int a1.1), some (.int a1.2), none, none, none], [], M, 0) _ _
  refine RG.st 4 (congrFun (congrFun (congrFun b_X8_hasNoSteps_1 v1) M) a1) ?_
  refine RG.ite (fun h1 => RG.brNF (q := 14) h1 rfl ?_) (fun h1 => RG.brNT (q := 134) h1 rfl ?_)
  · refine RG.st 2 (congrFun (congrFun (congrFun b_X8_hasNoSteps_2 v1) M) a1) ?_
    refine RG.loop (hd := (fun (a2 : Int32 × Int32) => (17, [some (.ref 19), some (.long v1), none, some (.int a2.1), some (.int a1.2), some (.int a2.2), none, none], [], M, 0))) (ex := (fun (a2 : Int32 × Int32) => (128, [some (.ref 19), some (.long v1), none, some (.int a2.1), some (.int a1.2), some (.int a2.2), none, none], [], M, 0))) (rt := (fun (v : Int32) => (.inl (some (.int v)), M))) (l_X8_hasNoSteps_2 v1 M a1) (fun a5 => ?_) (fun r v h => by cases h; rfl)
    show RG C_X8_hasNoSteps (128, [some (.ref 19), some (.long v1), none, some (.int a5.1), some (.int a1.2), some (.int a5.2), none, none], [], M, 0) _ _
    refine RG.st 2 (congrFun (congrFun (congrFun (congrFun b_X8_hasNoSteps_24 v1) M) a1) a5) ?_
    exact RG.to rfl (Rto.fgt [5] rfl)
  · exact RG.to rfl (Rto.refl _)
set_option maxRecDepth 100000 in
theorem b_X8_hasNoSteps_25 : (fun (v1 : Int64) (M : Mem) (a6 : (Int32 × Int32)) => run C_X8_hasNoSteps 2 (134, [some (.ref 19), some (.long v1), none, some (.int a6.1), some (.int a6.2), none, none, none], [], M, 0)) = (fun (v1 : Int64) (M : Mem) (a6 : (Int32 × Int32)) => some (.inr (.inl (some (.int (a6.1 &&& 1))), M, 0))) := by rfl
def d_X8_hasNoSteps (v1 : Int64) (M : Mem) : Option Int32 := (onIt (iter (g_X8_hasNoSteps_1 v1 M) 20000 ((1 : Int32), (0 : Int32))) (fun (a6 : Int32 × Int32) => some (a6.1 &&& 1)) (fun r => some r))
set_option maxHeartbeats 2000000 in
theorem r_X8_hasNoSteps (v1 : Int64) (M : Mem) : RG C_X8_hasNoSteps (0, [some (.ref 19), some (.long v1), none, none, none, none, none, none], [], M, 0) (d_X8_hasNoSteps v1 M) (fun v => .inr (.inl (some (.int v)), M)) := by
  unfold d_X8_hasNoSteps
  refine RG.st 4 (congrFun (congrFun b_X8_hasNoSteps_0 v1) M) ?_
  refine RG.loop (hd := (fun (a1 : Int32 × Int32) => (5, [some (.ref 19), some (.long v1), none, some (.int a1.1), some (.int a1.2), none, none, none], [], M, 0))) (ex := (fun (a1 : Int32 × Int32) => (134, [some (.ref 19), some (.long v1), none, some (.int a1.1), some (.int a1.2), none, none, none], [], M, 0))) (rt := (fun (v : Int32) => (.inl (some (.int v)), M))) (l_X8_hasNoSteps_1 v1 M) (fun a6 => ?_) (fun r v h => by cases h; rfl)
  show RG C_X8_hasNoSteps (134, [some (.ref 19), some (.long v1), none, some (.int a6.1), some (.int a6.2), none, none, none], [], M, 0) _ _
  exact RG.fin rfl (Rend.run 2 (congrFun (congrFun (congrFun b_X8_hasNoSteps_25 v1) M) a6))
def fn_X8_hasNoSteps : Fn := fun av M => match av with
  | [.ref r0, .long v1] => bif Nat.beq r0 19 then (d_X8_hasNoSteps v1 M).bind fun v => some (.inl (some (.int v)), M) else (none)
  | _ => none
theorem cfg_X8_hasNoSteps : CfgOK RX8 cX8_hasNoSteps (C_X8_hasNoSteps) 4 := ⟨tk_X8_hasNoSteps, csF_nd, flk_X8, (List.forall_mem_cons.mpr ⟨Or.inr ⟨yX8_size, cX8_size, 1, (some .int), none, 1, ok_X8_size, by decide, by decide, w_code_SumsetryModel_size___I, w_initialized_SumsetryModel, ⟨by decide, by decide⟩, Or.inr (Or.inr ⟨rfl, rfl, show (parseMethodDescriptor yX8_size.desc).map (fun d => d.parameters.length + 1) = some 1 from by decide +kernel, w_methodLink_SumsetryModel_49, w_instanceMethod_SumsetryModel_size___I, w_selects_SumsetryModel_size___I, ⟨_, rfl, rfl⟩⟩)⟩,
    List.forall_mem_cons.mpr ⟨Or.inr ⟨yX8_has, cX8_has, 3, (some .boolean), none, 1, ok_X8_has, by decide, by decide, w_code_SumsetryModel_has__JI_Z, w_initialized_SumsetryModel, ⟨by decide, by decide⟩, Or.inl ⟨rfl, show (parseMethodDescriptor yX8_has.desc).map (fun d => d.parameters.length) = some 2 from by decide +kernel, w_methodLink_SumsetryModel_60, w_static_SumsetryModel_has__JI_Z⟩⟩,
    List.forall_mem_cons.mpr ⟨Or.inr ⟨yX8_added, cX8_added, 3, (some .int), none, 3, ok_X8_added, by decide, by decide, w_code_SumsetryModel_added__II_I, w_initialized_SumsetryModel, ⟨by decide, by decide⟩, Or.inr (Or.inr ⟨rfl, rfl, show (parseMethodDescriptor yX8_added.desc).map (fun d => d.parameters.length + 1) = some 3 from by decide +kernel, w_methodLink_SumsetryModel_128, w_instanceMethod_SumsetryModel_added__II_I, w_selects_SumsetryModel_added__II_I, ⟨_, rfl, rfl⟩⟩)⟩, fun _ h => absurd h List.not_mem_nil⟩⟩⟩), ink_X8, lgk_X8, fun e h => absurd h List.not_mem_nil, (fun h hh => absurd hh List.not_mem_nil)⟩
theorem ok_X8_hasNoSteps : OkM csF yX8_hasNoSteps (Cond.code yX8_hasNoSteps cX8_hasNoSteps 8 (some .boolean)) 4 0 fn_X8_hasNoSteps :=
  OkM_of (own := RX8) (C := C_X8_hasNoSteps) (by decide +kernel) rfl (cfg_X8_hasNoSteps) rfl rfl rfl rfl (by
    intro av M o M' h
    unfold fn_X8_hasNoSteps at h
    split at h
    · rename_i r0 v1
      rcases bif_cs h with ⟨hb, h⟩ | ⟨-, h⟩
      · skip
        have hr0 := hb
        obtain rfl := Nat.eq_of_beq_eq_true hr0
        obtain ⟨w, hw, h⟩ := bind_cs h
        cases h
        exact ⟨rfl, Nat.le_of_ble_eq_true rfl, (r_X8_hasNoSteps v1 M) w hw⟩
      · cases h
    · cases h)
def t_X8_isApart : List (Nat × Instr × Nat) := [(0, .lconst 1, 1), (1, .lstore_n 3, 1), (2, .iconst 1, 1), (3, .istore 5, 2), (5, .iconst 0, 1), (6, .istore 6, 2), (8, .iload 6, 2), (10, .aload_n 0, 1), (11, .invokevirtual 49, 3), (14, .if_icmp .ge 53, 3), (17, .lload_n 1, 1), (18, .iload 6, 2), (20, .invokestatic 60, 3), (23, .ifCond .eq 38, 3), (26, .aload_n 0, 1), (27, .lload_n 3, 1), (28, .lconst 1, 1), (29, .iload 6, 2), (31, .lshl, 1), (32, .invokevirtual 99, 3), (35, .lstore 7, 2), (37, .iload 5, 2), (39, .lload_n 3, 1), (40, .lload 7, 2), (42, .land, 1), (43, .lconst 0, 1), (44, .lcmp, 1), (45, .ifCond .ne 7, 3), (48, .iconst 1, 1), (49, .goto 4, 3), (52, .iconst 0, 1), (53, .iand, 1), (54, .istore 5, 2), (56, .lload_n 3, 1), (57, .lload 7, 2), (59, .lor, 1), (60, .lstore_n 3, 1), (61, .iinc 6 1, 3), (64, .goto (-56), 3), (67, .iload 5, 2), (69, .ireturn, 1)]
theorem tk_X8_isApart : ∀ x ∈ t_X8_isApart, decode cX8_isApart x.1 = .ok x.2 := by decide +kernel
def C_X8_isApart : Cfg := (t_X8_isApart, csF, fl_X8, [(49, 2, 6, 1, 0, fn_X8_size), (60, 0, 6, 2, 0, fn_X8_has), (99, 2, 6, 3, 0, fn_X8_sumOf)], in_X8, lg_X8, [], [], none, (some .boolean), 0)
set_option maxRecDepth 100000 in
theorem b_X8_isApart_0 : (fun (v1 : Int64) (M : Mem) => run C_X8_isApart 6 (0, [some (.ref 19), some (.long v1), none, none, none, none, none, none, none], [], M, 0)) = (fun (v1 : Int64) (M : Mem) => some (.inl (8, [some (.ref 19), some (.long v1), none, some (.long (1 : Int64)), none, some (.int (1 : Int32)), some (.int (0 : Int32)), none, none], [], M, 0))) := by rfl
set_option maxRecDepth 100000 in
theorem b_X8_isApart_1 : (fun (v1 : Int64) (M : Mem) (a1 : (Int64 × Int32 × Int32)) => run C_X8_isApart 4 (8, [some (.ref 19), some (.long v1), none, some (.long a1.1), none, some (.int a1.2.1), some (.int a1.2.2), none, none], [], M, 0)) = (fun (v1 : Int64) (M : Mem) (a1 : (Int64 × Int32 × Int32)) => some (.inl ((br (!decide (a1.2.2 < (d_X8_size M))) 14 3 (53)), [some (.ref 19), some (.long v1), none, some (.long a1.1), none, some (.int a1.2.1), some (.int a1.2.2), none, none], [], M, 0))) := by rfl
set_option maxRecDepth 100000 in
theorem b_X8_isApart_2 : (fun (v1 : Int64) (M : Mem) (a1 : (Int64 × Int32 × Int32)) => run C_X8_isApart 4 (17, [some (.ref 19), some (.long v1), none, some (.long a1.1), none, some (.int a1.2.1), some (.int a1.2.2), none, none], [], M, 0)) = (fun (v1 : Int64) (M : Mem) (a1 : (Int64 × Int32 × Int32)) => some (.inl ((br (decide ((d_X8_has v1 a1.2.2) = 0)) 23 3 (38)), [some (.ref 19), some (.long v1), none, some (.long a1.1), none, some (.int a1.2.1), some (.int a1.2.2), none, none], [], M, 0))) := by rfl
set_option maxRecDepth 100000 in
theorem b_X8_isApart_3 : (fun (v1 : Int64) (M : Mem) (a1 : (Int64 × Int32 × Int32)) => run C_X8_isApart 2 (61, [some (.ref 19), some (.long v1), none, some (.long a1.1), none, some (.int a1.2.1), some (.int a1.2.2), none, none], [], M, 0)) = (fun (v1 : Int64) (M : Mem) (a1 : (Int64 × Int32 × Int32)) => some (.inl (8, [some (.ref 19), some (.long v1), none, some (.long a1.1), none, some (.int a1.2.1), some (.int (a1.2.2 + (1 : Int32))), none, none], [], M, 0))) := by rfl
set_option maxRecDepth 100000 in
theorem b_X8_isApart_4 : (fun (v1 : Int64) (M : Mem) (a1 : (Int64 × Int32 × Int32)) => run C_X8_isApart 5 (26, [some (.ref 19), some (.long v1), none, some (.long a1.1), none, some (.int a1.2.1), some (.int a1.2.2), none, none], [], M, 0)) = (fun (v1 : Int64) (M : Mem) (a1 : (Int64 × Int32 × Int32)) => some (.inl (32, [some (.ref 19), some (.long v1), none, some (.long a1.1), none, some (.int a1.2.1), some (.int a1.2.2), none, none], [.long (jshl (1 : Int64) a1.2.2), .long a1.1, .ref 19], M, 0))) := by rfl
set_option maxRecDepth 100000 in
theorem b_X8_isApart_5 : (fun (v1 : Int64) (M : Mem) (a1 : (Int64 × Int32 × Int32)) (w1 : Int64) => run C_X8_isApart 8 (35, [some (.ref 19), some (.long v1), none, some (.long a1.1), none, some (.int a1.2.1), some (.int a1.2.2), none, none], [.long w1], M, 0)) = (fun (v1 : Int64) (M : Mem) (a1 : (Int64 × Int32 × Int32)) (w1 : Int64) => some (.inl ((br (!decide ((lg_cmp (a1.1 &&& w1) (0 : Int64)) = 0)) 45 3 (7)), [some (.ref 19), some (.long v1), none, some (.long a1.1), none, some (.int a1.2.1), some (.int a1.2.2), some (.long w1), none], [.int a1.2.1], M, 0))) := by rfl
set_option maxRecDepth 100000 in
theorem b_X8_isApart_6 : (fun (v1 : Int64) (M : Mem) (a1 : (Int64 × Int32 × Int32)) (w1 : Int64) => run C_X8_isApart 1 (52, [some (.ref 19), some (.long v1), none, some (.long a1.1), none, some (.int a1.2.1), some (.int a1.2.2), some (.long w1), none], [.int a1.2.1], M, 0)) = (fun (v1 : Int64) (M : Mem) (a1 : (Int64 × Int32 × Int32)) (w1 : Int64) => some (.inl (53, [some (.ref 19), some (.long v1), none, some (.long a1.1), none, some (.int a1.2.1), some (.int a1.2.2), some (.long w1), none], [.int (0 : Int32), .int a1.2.1], M, 0))) := by rfl
set_option maxRecDepth 100000 in
theorem b_X8_isApart_7 : (fun (v1 : Int64) (M : Mem) (a1 : (Int64 × Int32 × Int32)) (w1 : Int64) => run C_X8_isApart 2 (48, [some (.ref 19), some (.long v1), none, some (.long a1.1), none, some (.int a1.2.1), some (.int a1.2.2), some (.long w1), none], [.int a1.2.1], M, 0)) = (fun (v1 : Int64) (M : Mem) (a1 : (Int64 × Int32 × Int32)) (w1 : Int64) => some (.inl (53, [some (.ref 19), some (.long v1), none, some (.long a1.1), none, some (.int a1.2.1), some (.int a1.2.2), some (.long w1), none], [.int (1 : Int32), .int a1.2.1], M, 0))) := by rfl
theorem m_X8_isApart_0 (v1 : Int64) (M : Mem) (a1 : (Int64 × Int32 × Int32)) (w1 : Int64) : Rto C_X8_isApart (35, [some (.ref 19), some (.long v1), none, some (.long a1.1), none, some (.int a1.2.1), some (.int a1.2.2), none, none], [.long w1], M, 0) (53, [some (.ref 19), some (.long v1), none, some (.long a1.1), none, some (.int a1.2.1), some (.int a1.2.2), some (.long w1), none], [.int (if (lg_cmp (a1.1 &&& w1) (0 : Int64)) = 0 then (1 : Int32) else (0 : Int32)), .int a1.2.1], M, 0) := by
  refine Rto.trans (Rto.run 8 (congrFun (congrFun (congrFun (congrFun b_X8_isApart_5 v1) M) a1) w1)) ?_
  by_cases h : (lg_cmp (a1.1 &&& w1) (0 : Int64)) = 0
  · refine Rto.trans (Rto.brNF (q := 48) h rfl) ?_
    refine Rto.trans (Rto.run 2 (congrFun (congrFun (congrFun (congrFun b_X8_isApart_7 v1) M) a1) w1)) ?_
    exact Rto.eq (by first | (simp only [if_pos h]; done) | rfl | exact absurd rfl h | (simp; done))
  · refine Rto.trans (Rto.brNT (q := 52) h rfl) ?_
    refine Rto.trans (Rto.run 1 (congrFun (congrFun (congrFun (congrFun b_X8_isApart_6 v1) M) a1) w1)) ?_
    exact Rto.eq (by first | (simp only [if_neg h]; done) | rfl | exact absurd rfl h | (simp; done))
set_option maxRecDepth 100000 in
theorem b_X8_isApart_8 : (fun (v1 : Int64) (M : Mem) (a1 : (Int64 × Int32 × Int32)) (w1 : Int64) => run C_X8_isApart 8 (53, [some (.ref 19), some (.long v1), none, some (.long a1.1), none, some (.int a1.2.1), some (.int a1.2.2), some (.long w1), none], [.int (if (lg_cmp (a1.1 &&& w1) (0 : Int64)) = 0 then (1 : Int32) else (0 : Int32)), .int a1.2.1], M, 0)) = (fun (v1 : Int64) (M : Mem) (a1 : (Int64 × Int32 × Int32)) (w1 : Int64) => some (.inl (8, [some (.ref 19), some (.long v1), none, some (.long (a1.1 ||| w1)), none, some (.int (a1.2.1 &&& (if (lg_cmp (a1.1 &&& w1) (0 : Int64)) = 0 then (1 : Int32) else (0 : Int32)))), some (.int (a1.2.2 + (1 : Int32))), some (.long w1), none], [], M, 0))) := by rfl
def g_X8_isApart_1 (v1 : Int64) (M : Mem) : Int64 × Int32 × Int32 → Option ((Int64 × Int32 × Int32) ⊕ ((Int64 × Int32 × Int32) ⊕ Int32)) := fun (a1 : Int64 × Int32 × Int32) => (if a1.2.2 < (d_X8_size M) then (if (d_X8_has v1 a1.2.2) = 0 then some (.inl (a1.1, a1.2.1, (a1.2.2 + (1 : Int32)))) else ((d_X8_sumOf a1.1 (jshl (1 : Int64) a1.2.2) M).bind fun w1 => some (.inl ((a1.1 ||| w1), (a1.2.1 &&& (if (lg_cmp (a1.1 &&& w1) (0 : Int64)) = 0 then (1 : Int32) else (0 : Int32))), (a1.2.2 + (1 : Int32)))))) else some (.inr (.inl (a1.1, a1.2.1, a1.2.2))))
set_option maxHeartbeats 2000000 in
theorem l_X8_isApart_1 (v1 : Int64) (M : Mem) : ∀ a1 : Int64 × Int32 × Int32, RG C_X8_isApart ((fun (a1 : Int64 × Int32 × Int32) => (8, [some (.ref 19), some (.long v1), none, some (.long a1.1), none, some (.int a1.2.1), some (.int a1.2.2), none, none], [], M, 0)) a1) (g_X8_isApart_1 v1 M a1) (lpP (fun (a1 : Int64 × Int32 × Int32) => (8, [some (.ref 19), some (.long v1), none, some (.long a1.1), none, some (.int a1.2.1), some (.int a1.2.2), none, none], [], M, 0)) (fun (a1 : Int64 × Int32 × Int32) => (67, [some (.ref 19), some (.long v1), none, some (.long a1.1), none, some (.int a1.2.1), some (.int a1.2.2), none, none], [], M, 0)) (fun (v : Int32) => (.inl (some (.int v)), M))) := by
  intro a1
  unfold g_X8_isApart_1
  show RG C_X8_isApart (8, [some (.ref 19), some (.long v1), none, some (.long a1.1), none, some (.int a1.2.1), some (.int a1.2.2), none, none], [], M, 0) _ _
  refine RG.st 4 (congrFun (congrFun (congrFun b_X8_isApart_1 v1) M) a1) ?_
  refine RG.ite (fun h1 => RG.brNF (q := 17) h1 rfl ?_) (fun h1 => RG.brNT (q := 67) h1 rfl ?_)
  · refine RG.st 4 (congrFun (congrFun (congrFun b_X8_isApart_2 v1) M) a1) ?_
    refine RG.ite (fun h2 => RG.brT (q := 61) h2 rfl ?_) (fun h2 => RG.brF (q := 26) h2 rfl ?_)
    · refine RG.st 2 (congrFun (congrFun (congrFun b_X8_isApart_3 v1) M) a1) ?_
      exact RG.to rfl (Rto.refl _)
    · refine RG.st 5 (congrFun (congrFun (congrFun b_X8_isApart_4 v1) M) a1) ?_
      refine RG.bind (fun w1 h3 => RG.st 1 (run_callV (v := some (.long w1)) rfl rfl rfl rfl rfl (bindL h3)) ?_)
      show RG C_X8_isApart (35, [some (.ref 19), some (.long v1), none, some (.long a1.1), none, some (.int a1.2.1), some (.int a1.2.2), none, none], [.long w1], M, 0) _ _
      refine RG.step (m_X8_isApart_0 v1 M a1 w1) ?_
      refine RG.st 8 (congrFun (congrFun (congrFun (congrFun b_X8_isApart_8 v1) M) a1) w1) ?_
      exact RG.to rfl (Rto.fgt [7] rfl)
  · exact RG.to rfl (Rto.refl _)
set_option maxRecDepth 100000 in
theorem b_X8_isApart_9 : (fun (v1 : Int64) (M : Mem) (a2 : (Int64 × Int32 × Int32)) => run C_X8_isApart 2 (67, [some (.ref 19), some (.long v1), none, some (.long a2.1), none, some (.int a2.2.1), some (.int a2.2.2), none, none], [], M, 0)) = (fun (v1 : Int64) (M : Mem) (a2 : (Int64 × Int32 × Int32)) => some (.inr (.inl (some (.int (a2.2.1 &&& 1))), M, 0))) := by rfl
def d_X8_isApart (v1 : Int64) (M : Mem) : Option Int32 := (onIt (iter (g_X8_isApart_1 v1 M) 20000 ((1 : Int64), (1 : Int32), (0 : Int32))) (fun (a2 : Int64 × Int32 × Int32) => some (a2.2.1 &&& 1)) (fun r => some r))
set_option maxHeartbeats 2000000 in
theorem r_X8_isApart (v1 : Int64) (M : Mem) : RG C_X8_isApart (0, [some (.ref 19), some (.long v1), none, none, none, none, none, none, none], [], M, 0) (d_X8_isApart v1 M) (fun v => .inr (.inl (some (.int v)), M)) := by
  unfold d_X8_isApart
  refine RG.st 6 (congrFun (congrFun b_X8_isApart_0 v1) M) ?_
  refine RG.loop (hd := (fun (a1 : Int64 × Int32 × Int32) => (8, [some (.ref 19), some (.long v1), none, some (.long a1.1), none, some (.int a1.2.1), some (.int a1.2.2), none, none], [], M, 0))) (ex := (fun (a1 : Int64 × Int32 × Int32) => (67, [some (.ref 19), some (.long v1), none, some (.long a1.1), none, some (.int a1.2.1), some (.int a1.2.2), none, none], [], M, 0))) (rt := (fun (v : Int32) => (.inl (some (.int v)), M))) (l_X8_isApart_1 v1 M) (fun a2 => ?_) (fun r v h => by cases h; rfl)
  show RG C_X8_isApart (67, [some (.ref 19), some (.long v1), none, some (.long a2.1), none, some (.int a2.2.1), some (.int a2.2.2), none, none], [], M, 0) _ _
  exact RG.fin rfl (Rend.run 2 (congrFun (congrFun (congrFun b_X8_isApart_9 v1) M) a2))
def fn_X8_isApart : Fn := fun av M => match av with
  | [.ref r0, .long v1] => bif Nat.beq r0 19 then (d_X8_isApart v1 M).bind fun v => some (.inl (some (.int v)), M) else (none)
  | _ => none
theorem cfg_X8_isApart : CfgOK RX8 cX8_isApart (C_X8_isApart) 5 := ⟨tk_X8_isApart, csF_nd, flk_X8, (List.forall_mem_cons.mpr ⟨Or.inr ⟨yX8_size, cX8_size, 1, (some .int), none, 1, ok_X8_size, by decide, by decide, w_code_SumsetryModel_size___I, w_initialized_SumsetryModel, ⟨by decide, by decide⟩, Or.inr (Or.inr ⟨rfl, rfl, show (parseMethodDescriptor yX8_size.desc).map (fun d => d.parameters.length + 1) = some 1 from by decide +kernel, w_methodLink_SumsetryModel_49, w_instanceMethod_SumsetryModel_size___I, w_selects_SumsetryModel_size___I, ⟨_, rfl, rfl⟩⟩)⟩,
    List.forall_mem_cons.mpr ⟨Or.inr ⟨yX8_has, cX8_has, 3, (some .boolean), none, 1, ok_X8_has, by decide, by decide, w_code_SumsetryModel_has__JI_Z, w_initialized_SumsetryModel, ⟨by decide, by decide⟩, Or.inl ⟨rfl, show (parseMethodDescriptor yX8_has.desc).map (fun d => d.parameters.length) = some 2 from by decide +kernel, w_methodLink_SumsetryModel_60, w_static_SumsetryModel_has__JI_Z⟩⟩,
    List.forall_mem_cons.mpr ⟨Or.inr ⟨yX8_sumOf, cX8_sumOf, 5, (some .long), none, 4, ok_X8_sumOf, by decide, by decide, w_code_SumsetryModel_sumOf__JJ_J, w_initialized_SumsetryModel, ⟨by decide, by decide⟩, Or.inr (Or.inr ⟨rfl, rfl, show (parseMethodDescriptor yX8_sumOf.desc).map (fun d => d.parameters.length + 1) = some 3 from by decide +kernel, w_methodLink_SumsetryModel_99, w_instanceMethod_SumsetryModel_sumOf__JJ_J, w_selects_SumsetryModel_sumOf__JJ_J, ⟨_, rfl, rfl⟩⟩)⟩, fun _ h => absurd h List.not_mem_nil⟩⟩⟩), ink_X8, lgk_X8, fun e h => absurd h List.not_mem_nil, (fun h hh => absurd hh List.not_mem_nil)⟩
theorem ok_X8_isApart : OkM csF yX8_isApart (Cond.code yX8_isApart cX8_isApart 9 (some .boolean)) 5 0 fn_X8_isApart :=
  OkM_of (own := RX8) (C := C_X8_isApart) (by decide +kernel) rfl (cfg_X8_isApart) rfl rfl rfl rfl (by
    intro av M o M' h
    unfold fn_X8_isApart at h
    split at h
    · rename_i r0 v1
      rcases bif_cs h with ⟨hb, h⟩ | ⟨-, h⟩
      · skip
        have hr0 := hb
        obtain rfl := Nat.eq_of_beq_eq_true hr0
        obtain ⟨w, hw, h⟩ := bind_cs h
        cases h
        exact ⟨rfl, Nat.le_of_ble_eq_true rfl, (r_X8_isApart v1 M) w hw⟩
      · cases h
    · cases h)
def t_X8_keepsRule : List (Nat × Instr × Nat) := [(0, .iload_n 3, 1), (1, .ifCond .ne 11, 3), (4, .aload_n 0, 1), (5, .lload_n 1, 1), (6, .invokevirtual 150, 3), (9, .goto 34, 3), (12, .iload_n 3, 1), (13, .iconst 1, 1), (14, .if_icmp .ne 11, 3), (17, .aload_n 0, 1), (18, .lload_n 1, 1), (19, .invokevirtual 154, 3), (22, .goto 21, 3), (25, .iload_n 3, 1), (26, .iconst 2, 1), (27, .if_icmp .ne 11, 3), (30, .aload_n 0, 1), (31, .lload_n 1, 1), (32, .invokevirtual 157, 3), (35, .goto 8, 3), (38, .aload_n 0, 1), (39, .lload_n 1, 1), (40, .invokevirtual 160, 3), (43, .ireturn, 1)]
theorem tk_X8_keepsRule : ∀ x ∈ t_X8_keepsRule, decode cX8_keepsRule x.1 = .ok x.2 := by decide +kernel
def C_X8_keepsRule : Cfg := (t_X8_keepsRule, csF, fl_X8, [(150, 2, 6, 2, 0, fn_X8_isFree), (154, 2, 6, 2, 0, fn_X8_isSidon), (157, 2, 6, 2, 0, fn_X8_hasNoSteps), (160, 2, 6, 2, 0, fn_X8_isApart)], in_X8, lg_X8, [], [], none, (some .boolean), 0)
set_option maxRecDepth 100000 in
theorem b_X8_keepsRule_0 : (fun (v1 : Int64) (v3 : Int32) (M : Mem) => run C_X8_keepsRule 2 (0, [some (.ref 19), some (.long v1), none, some (.int v3)], [], M, 0)) = (fun (v1 : Int64) (v3 : Int32) (M : Mem) => some (.inl ((br (!decide (v3 = 0)) 1 3 (11)), [some (.ref 19), some (.long v1), none, some (.int v3)], [], M, 0))) := by rfl
set_option maxRecDepth 100000 in
theorem b_X8_keepsRule_1 : (fun (v1 : Int64) (v3 : Int32) (M : Mem) => run C_X8_keepsRule 2 (4, [some (.ref 19), some (.long v1), none, some (.int v3)], [], M, 0)) = (fun (v1 : Int64) (v3 : Int32) (M : Mem) => some (.inl (6, [some (.ref 19), some (.long v1), none, some (.int v3)], [.long v1, .ref 19], M, 0))) := by rfl
set_option maxRecDepth 100000 in
theorem b_X8_keepsRule_2 : (fun (v1 : Int64) (v3 : Int32) (M : Mem) (w1 : Int32) => run C_X8_keepsRule 2 (9, [some (.ref 19), some (.long v1), none, some (.int v3)], [.int w1], M, 0)) = (fun (v1 : Int64) (v3 : Int32) (M : Mem) (w1 : Int32) => some (.inr (.inl (some (.int (w1 &&& 1))), M, 0))) := by rfl
set_option maxRecDepth 100000 in
theorem b_X8_keepsRule_3 : (fun (v1 : Int64) (v3 : Int32) (M : Mem) => run C_X8_keepsRule 3 (12, [some (.ref 19), some (.long v1), none, some (.int v3)], [], M, 0)) = (fun (v1 : Int64) (v3 : Int32) (M : Mem) => some (.inl ((br (!decide (v3 = (1 : Int32))) 14 3 (11)), [some (.ref 19), some (.long v1), none, some (.int v3)], [], M, 0))) := by rfl
set_option maxRecDepth 100000 in
theorem b_X8_keepsRule_4 : (fun (v1 : Int64) (v3 : Int32) (M : Mem) => run C_X8_keepsRule 2 (17, [some (.ref 19), some (.long v1), none, some (.int v3)], [], M, 0)) = (fun (v1 : Int64) (v3 : Int32) (M : Mem) => some (.inl (19, [some (.ref 19), some (.long v1), none, some (.int v3)], [.long v1, .ref 19], M, 0))) := by rfl
set_option maxRecDepth 100000 in
theorem b_X8_keepsRule_5 : (fun (v1 : Int64) (v3 : Int32) (M : Mem) (w2 : Int32) => run C_X8_keepsRule 2 (22, [some (.ref 19), some (.long v1), none, some (.int v3)], [.int w2], M, 0)) = (fun (v1 : Int64) (v3 : Int32) (M : Mem) (w2 : Int32) => some (.inr (.inl (some (.int (w2 &&& 1))), M, 0))) := by rfl
set_option maxRecDepth 100000 in
theorem b_X8_keepsRule_6 : (fun (v1 : Int64) (v3 : Int32) (M : Mem) => run C_X8_keepsRule 3 (25, [some (.ref 19), some (.long v1), none, some (.int v3)], [], M, 0)) = (fun (v1 : Int64) (v3 : Int32) (M : Mem) => some (.inl ((br (!decide (v3 = (2 : Int32))) 27 3 (11)), [some (.ref 19), some (.long v1), none, some (.int v3)], [], M, 0))) := by rfl
set_option maxRecDepth 100000 in
theorem b_X8_keepsRule_7 : (fun (v1 : Int64) (v3 : Int32) (M : Mem) => run C_X8_keepsRule 2 (30, [some (.ref 19), some (.long v1), none, some (.int v3)], [], M, 0)) = (fun (v1 : Int64) (v3 : Int32) (M : Mem) => some (.inl (32, [some (.ref 19), some (.long v1), none, some (.int v3)], [.long v1, .ref 19], M, 0))) := by rfl
set_option maxRecDepth 100000 in
theorem b_X8_keepsRule_8 : (fun (v1 : Int64) (v3 : Int32) (M : Mem) (w3 : Int32) => run C_X8_keepsRule 2 (35, [some (.ref 19), some (.long v1), none, some (.int v3)], [.int w3], M, 0)) = (fun (v1 : Int64) (v3 : Int32) (M : Mem) (w3 : Int32) => some (.inr (.inl (some (.int (w3 &&& 1))), M, 0))) := by rfl
set_option maxRecDepth 100000 in
theorem b_X8_keepsRule_9 : (fun (v1 : Int64) (v3 : Int32) (M : Mem) => run C_X8_keepsRule 2 (38, [some (.ref 19), some (.long v1), none, some (.int v3)], [], M, 0)) = (fun (v1 : Int64) (v3 : Int32) (M : Mem) => some (.inl (40, [some (.ref 19), some (.long v1), none, some (.int v3)], [.long v1, .ref 19], M, 0))) := by rfl
set_option maxRecDepth 100000 in
theorem b_X8_keepsRule_10 : (fun (v1 : Int64) (v3 : Int32) (M : Mem) (w4 : Int32) => run C_X8_keepsRule 1 (43, [some (.ref 19), some (.long v1), none, some (.int v3)], [.int w4], M, 0)) = (fun (v1 : Int64) (v3 : Int32) (M : Mem) (w4 : Int32) => some (.inr (.inl (some (.int (w4 &&& 1))), M, 0))) := by rfl
def d_X8_keepsRule (v1 : Int64) (v3 : Int32) (M : Mem) : Option Int32 := (if v3 = 0 then ((d_X8_isFree v1 M).bind fun w1 => some (w1 &&& 1)) else (if v3 = (1 : Int32) then ((d_X8_isSidon v1 M).bind fun w2 => some (w2 &&& 1)) else (if v3 = (2 : Int32) then ((d_X8_hasNoSteps v1 M).bind fun w3 => some (w3 &&& 1)) else ((d_X8_isApart v1 M).bind fun w4 => some (w4 &&& 1)))))
set_option maxHeartbeats 2000000 in
theorem r_X8_keepsRule (v1 : Int64) (v3 : Int32) (M : Mem) : RG C_X8_keepsRule (0, [some (.ref 19), some (.long v1), none, some (.int v3)], [], M, 0) (d_X8_keepsRule v1 v3 M) (fun v => .inr (.inl (some (.int v)), M)) := by
  unfold d_X8_keepsRule
  refine RG.st 2 (congrFun (congrFun (congrFun b_X8_keepsRule_0 v1) v3) M) ?_
  refine RG.ite (fun h1 => RG.brNF (q := 4) h1 rfl ?_) (fun h1 => RG.brNT (q := 12) h1 rfl ?_)
  · refine RG.st 2 (congrFun (congrFun (congrFun b_X8_keepsRule_1 v1) v3) M) ?_
    refine RG.bind (fun w1 h2 => RG.st 1 (run_callV (v := some (.int w1)) rfl rfl rfl rfl rfl (bindI h2)) ?_)
    show RG C_X8_keepsRule (9, [some (.ref 19), some (.long v1), none, some (.int v3)], [.int w1], M, 0) _ _
    exact RG.fin rfl (Rend.run 2 (congrFun (congrFun (congrFun (congrFun b_X8_keepsRule_2 v1) v3) M) w1))
  · refine RG.st 3 (congrFun (congrFun (congrFun b_X8_keepsRule_3 v1) v3) M) ?_
    refine RG.ite (fun h3 => RG.brNF (q := 17) h3 rfl ?_) (fun h3 => RG.brNT (q := 25) h3 rfl ?_)
    · refine RG.st 2 (congrFun (congrFun (congrFun b_X8_keepsRule_4 v1) v3) M) ?_
      refine RG.bind (fun w2 h4 => RG.st 1 (run_callV (v := some (.int w2)) rfl rfl rfl rfl rfl (bindI h4)) ?_)
      show RG C_X8_keepsRule (22, [some (.ref 19), some (.long v1), none, some (.int v3)], [.int w2], M, 0) _ _
      exact RG.fin rfl (Rend.run 2 (congrFun (congrFun (congrFun (congrFun b_X8_keepsRule_5 v1) v3) M) w2))
    · refine RG.st 3 (congrFun (congrFun (congrFun b_X8_keepsRule_6 v1) v3) M) ?_
      refine RG.ite (fun h5 => RG.brNF (q := 30) h5 rfl ?_) (fun h5 => RG.brNT (q := 38) h5 rfl ?_)
      · refine RG.st 2 (congrFun (congrFun (congrFun b_X8_keepsRule_7 v1) v3) M) ?_
        refine RG.bind (fun w3 h6 => RG.st 1 (run_callV (v := some (.int w3)) rfl rfl rfl rfl rfl (bindI h6)) ?_)
        show RG C_X8_keepsRule (35, [some (.ref 19), some (.long v1), none, some (.int v3)], [.int w3], M, 0) _ _
        exact RG.fin rfl (Rend.run 2 (congrFun (congrFun (congrFun (congrFun b_X8_keepsRule_8 v1) v3) M) w3))
      · refine RG.st 2 (congrFun (congrFun (congrFun b_X8_keepsRule_9 v1) v3) M) ?_
        refine RG.bind (fun w4 h7 => RG.st 1 (run_callV (v := some (.int w4)) rfl rfl rfl rfl rfl (bindI h7)) ?_)
        show RG C_X8_keepsRule (43, [some (.ref 19), some (.long v1), none, some (.int v3)], [.int w4], M, 0) _ _
        exact RG.fin rfl (Rend.run 1 (congrFun (congrFun (congrFun (congrFun b_X8_keepsRule_10 v1) v3) M) w4))
def fn_X8_keepsRule : Fn := fun av M => match av with
  | [.ref r0, .long v1, .int v3] => bif Nat.beq r0 19 then (d_X8_keepsRule v1 v3 M).bind fun v => some (.inl (some (.int v)), M) else (none)
  | _ => none
theorem cfg_X8_keepsRule : CfgOK RX8 cX8_keepsRule (C_X8_keepsRule) 6 := ⟨tk_X8_keepsRule, csF_nd, flk_X8, (List.forall_mem_cons.mpr ⟨Or.inr ⟨yX8_isFree, cX8_isFree, 3, (some .boolean), none, 5, ok_X8_isFree, by decide, by decide, w_code_SumsetryModel_isFree__J_Z, w_initialized_SumsetryModel, ⟨by decide, by decide⟩, Or.inr (Or.inr ⟨rfl, rfl, show (parseMethodDescriptor yX8_isFree.desc).map (fun d => d.parameters.length + 1) = some 2 from by decide +kernel, w_methodLink_SumsetryModel_150, w_instanceMethod_SumsetryModel_isFree__J_Z, w_selects_SumsetryModel_isFree__J_Z, ⟨_, rfl, rfl⟩⟩)⟩,
    List.forall_mem_cons.mpr ⟨Or.inr ⟨yX8_isSidon, cX8_isSidon, 10, (some .boolean), none, 4, ok_X8_isSidon, by decide, by decide, w_code_SumsetryModel_isSidon__J_Z, w_initialized_SumsetryModel, ⟨by decide, by decide⟩, Or.inr (Or.inr ⟨rfl, rfl, show (parseMethodDescriptor yX8_isSidon.desc).map (fun d => d.parameters.length + 1) = some 2 from by decide +kernel, w_methodLink_SumsetryModel_154, w_instanceMethod_SumsetryModel_isSidon__J_Z, w_selects_SumsetryModel_isSidon__J_Z, ⟨_, rfl, rfl⟩⟩)⟩,
    List.forall_mem_cons.mpr ⟨Or.inr ⟨yX8_hasNoSteps, cX8_hasNoSteps, 8, (some .boolean), none, 4, ok_X8_hasNoSteps, by decide, by decide, w_code_SumsetryModel_hasNoSteps__J_Z, w_initialized_SumsetryModel, ⟨by decide, by decide⟩, Or.inr (Or.inr ⟨rfl, rfl, show (parseMethodDescriptor yX8_hasNoSteps.desc).map (fun d => d.parameters.length + 1) = some 2 from by decide +kernel, w_methodLink_SumsetryModel_157, w_instanceMethod_SumsetryModel_hasNoSteps__J_Z, w_selects_SumsetryModel_hasNoSteps__J_Z, ⟨_, rfl, rfl⟩⟩)⟩,
    List.forall_mem_cons.mpr ⟨Or.inr ⟨yX8_isApart, cX8_isApart, 9, (some .boolean), none, 5, ok_X8_isApart, by decide, by decide, w_code_SumsetryModel_isApart__J_Z, w_initialized_SumsetryModel, ⟨by decide, by decide⟩, Or.inr (Or.inr ⟨rfl, rfl, show (parseMethodDescriptor yX8_isApart.desc).map (fun d => d.parameters.length + 1) = some 2 from by decide +kernel, w_methodLink_SumsetryModel_160, w_instanceMethod_SumsetryModel_isApart__J_Z, w_selects_SumsetryModel_isApart__J_Z, ⟨_, rfl, rfl⟩⟩)⟩, fun _ h => absurd h List.not_mem_nil⟩⟩⟩⟩), ink_X8, lgk_X8, fun e h => absurd h List.not_mem_nil, (fun h hh => absurd hh List.not_mem_nil)⟩
theorem ok_X8_keepsRule : OkM csF yX8_keepsRule (Cond.code yX8_keepsRule cX8_keepsRule 4 (some .boolean)) 6 0 fn_X8_keepsRule :=
  OkM_of (own := RX8) (C := C_X8_keepsRule) (by decide +kernel) rfl (cfg_X8_keepsRule) rfl rfl rfl rfl (by
    intro av M o M' h
    unfold fn_X8_keepsRule at h
    split at h
    · rename_i r0 v1 v3
      rcases bif_cs h with ⟨hb, h⟩ | ⟨-, h⟩
      · skip
        have hr0 := hb
        obtain rfl := Nat.eq_of_beq_eq_true hr0
        obtain ⟨w, hw, h⟩ := bind_cs h
        cases h
        exact ⟨rfl, Nat.le_of_ble_eq_true rfl, (r_X8_keepsRule v1 v3 M) w hw⟩
      · cases h
    · cases h)
def t_X8_isRule : List (Nat × Instr × Nat) := [(0, .iload_n 0, 1), (1, .iconst 0, 1), (2, .iconst 3, 1), (3, .invokestatic 53, 3), (6, .ireturn, 1)]
theorem tk_X8_isRule : ∀ x ∈ t_X8_isRule, decode cX8_isRule x.1 = .ok x.2 := by decide +kernel
def C_X8_isRule : Cfg := (t_X8_isRule, csF, fl_X8, [(53, 0, 6, 3, 0, fn_X8_isIn)], in_X8, lg_X8, [], [], none, (some .boolean), 0)
set_option maxRecDepth 100000 in
theorem b_X8_isRule_0 : (fun (v0 : Int32) (M : Mem) => run C_X8_isRule 5 (0, [some (.int v0)], [], M, 0)) = (fun (v0 : Int32) (M : Mem) => some (.inr (.inl (some (.int ((d_X8_isIn v0 (0 : Int32) (3 : Int32)) &&& 1))), M, 0))) := by rfl
def d_X8_isRule (v0 : Int32) : Int32 := ((d_X8_isIn v0 (0 : Int32) (3 : Int32)) &&& 1)
set_option maxHeartbeats 2000000 in
theorem r_X8_isRule (v0 : Int32) (M : Mem) : RG C_X8_isRule (0, [some (.int v0)], [], M, 0) (some (d_X8_isRule v0)) (fun v => .inr (.inl (some (.int v)), M)) := by
  unfold d_X8_isRule
  exact RG.fin rfl (Rend.run 5 (congrFun (congrFun b_X8_isRule_0 v0) M))
def fn_X8_isRule : Fn := fun av M => match av with
  | [.int v0] => some (.inl (some (.int (d_X8_isRule v0))), M)
  | _ => none
theorem cfg_X8_isRule : CfgOK RX8 cX8_isRule (C_X8_isRule) 2 := ⟨tk_X8_isRule, csF_nd, flk_X8, (List.forall_mem_cons.mpr ⟨Or.inr ⟨yX8_isIn, cX8_isIn, 3, (some .boolean), none, 1, ok_X8_isIn, by decide, by decide, w_code_SumsetryModel_isIn__III_Z, w_initialized_SumsetryModel, ⟨by decide, by decide⟩, Or.inl ⟨rfl, show (parseMethodDescriptor yX8_isIn.desc).map (fun d => d.parameters.length) = some 3 from by decide +kernel, w_methodLink_SumsetryModel_53, w_static_SumsetryModel_isIn__III_Z⟩⟩, fun _ h => absurd h List.not_mem_nil⟩), ink_X8, lgk_X8, fun e h => absurd h List.not_mem_nil, (fun h hh => absurd hh List.not_mem_nil)⟩
theorem ok_X8_isRule : OkM csF yX8_isRule (Cond.code yX8_isRule cX8_isRule 1 (some .boolean)) 2 0 fn_X8_isRule :=
  OkM_of (own := RX8) (C := C_X8_isRule) (by decide +kernel) rfl (cfg_X8_isRule) rfl rfl rfl rfl (by
    intro av M o M' h
    unfold fn_X8_isRule at h
    split at h
    · rename_i v0
      cases h
      exact ⟨rfl, Nat.le_of_ble_eq_true rfl, (r_X8_isRule v0 M) _ rfl⟩
    · cases h)
def t_X8_keeps : List (Nat × Instr × Nat) := [(0, .aload_n 0, 1), (1, .aload_n 0, 1), (2, .iload_n 1, 1), (3, .invokevirtual 96, 3), (6, .ifCond .eq 14, 3), (9, .iload_n 2, 1), (10, .invokestatic 163, 3), (13, .ifCond .eq 7, 3), (16, .iconst 0, 1), (17, .goto 4, 3), (20, .iconst 1, 1), (21, .putfield 46, 3), (24, .aload_n 0, 1), (25, .getfield 46, 3), (28, .ifCond .ne 21, 3), (31, .aload_n 0, 1), (32, .aload_n 0, 1), (33, .getfield 16, 3), (36, .iload_n 1, 1), (37, .laload, 1), (38, .iload_n 2, 1), (39, .invokevirtual 166, 3), (42, .ifCond .eq 7, 3), (45, .iconst 1, 1), (46, .goto 4, 3), (49, .iconst 0, 1), (50, .ireturn, 1)]
theorem tk_X8_keeps : ∀ x ∈ t_X8_keeps, decode cX8_keeps x.1 = .ok x.2 := by decide +kernel
def C_X8_keeps : Cfg := (t_X8_keeps, csF, fl_X8, [(96, 2, 6, 2, 0, fn_X8_isSet), (163, 0, 6, 1, 0, fn_X8_isRule), (166, 2, 6, 3, 0, fn_X8_keepsRule)], in_X8, lg_X8, [], [], none, (some .boolean), 0)
set_option maxRecDepth 100000 in
theorem b_X8_keeps_0 : (fun (v1 : Int32) (v2 : Int32) (M : Mem) => run C_X8_keeps 5 (0, [some (.ref 19), some (.int v1), some (.int v2)], [], M, 0)) = (fun (v1 : Int32) (v2 : Int32) (M : Mem) => some (.inl ((br (decide ((d_X8_isSet v1 M) = 0)) 6 3 (14)), [some (.ref 19), some (.int v1), some (.int v2)], [.ref 19], M, 0))) := by rfl
set_option maxRecDepth 100000 in
theorem b_X8_keeps_1 : (fun (v1 : Int32) (v2 : Int32) (M : Mem) => run C_X8_keeps 1 (20, [some (.ref 19), some (.int v1), some (.int v2)], [.ref 19], M, 0)) = (fun (v1 : Int32) (v2 : Int32) (M : Mem) => some (.inl (21, [some (.ref 19), some (.int v1), some (.int v2)], [.int (1 : Int32), .ref 19], M, 0))) := by rfl
set_option maxRecDepth 100000 in
theorem b_X8_keeps_2 : (fun (v1 : Int32) (v2 : Int32) (M : Mem) => run C_X8_keeps 3 (9, [some (.ref 19), some (.int v1), some (.int v2)], [.ref 19], M, 0)) = (fun (v1 : Int32) (v2 : Int32) (M : Mem) => some (.inl ((br (decide ((d_X8_isRule v2) = 0)) 13 3 (7)), [some (.ref 19), some (.int v1), some (.int v2)], [.ref 19], M, 0))) := by rfl
set_option maxRecDepth 100000 in
theorem b_X8_keeps_3 : (fun (v1 : Int32) (v2 : Int32) (M : Mem) => run C_X8_keeps 1 (20, [some (.ref 19), some (.int v1), some (.int v2)], [.ref 19], M, 0)) = (fun (v1 : Int32) (v2 : Int32) (M : Mem) => some (.inl (21, [some (.ref 19), some (.int v1), some (.int v2)], [.int (1 : Int32), .ref 19], M, 0))) := by rfl
set_option maxRecDepth 100000 in
theorem b_X8_keeps_4 : (fun (v1 : Int32) (v2 : Int32) (M : Mem) => run C_X8_keeps 2 (16, [some (.ref 19), some (.int v1), some (.int v2)], [.ref 19], M, 0)) = (fun (v1 : Int32) (v2 : Int32) (M : Mem) => some (.inl (21, [some (.ref 19), some (.int v1), some (.int v2)], [.int (0 : Int32), .ref 19], M, 0))) := by rfl
theorem m_X8_keeps_0 (v1 : Int32) (v2 : Int32) (M : Mem) : Rto C_X8_keeps (9, [some (.ref 19), some (.int v1), some (.int v2)], [.ref 19], M, 0) (21, [some (.ref 19), some (.int v1), some (.int v2)], [.int (if (d_X8_isRule v2) = 0 then (1 : Int32) else (0 : Int32)), .ref 19], M, 0) := by
  refine Rto.trans (Rto.run 3 (congrFun (congrFun (congrFun b_X8_keeps_2 v1) v2) M)) ?_
  by_cases h : (d_X8_isRule v2) = 0
  · refine Rto.trans (Rto.brT (q := 20) h rfl) ?_
    refine Rto.trans (Rto.run 1 (congrFun (congrFun (congrFun b_X8_keeps_3 v1) v2) M)) ?_
    exact Rto.eq (by first | (simp only [if_pos h]; done) | rfl | exact absurd rfl h | (simp; done))
  · refine Rto.trans (Rto.brF (q := 16) h rfl) ?_
    refine Rto.trans (Rto.run 2 (congrFun (congrFun (congrFun b_X8_keeps_4 v1) v2) M)) ?_
    exact Rto.eq (by first | (simp only [if_neg h]; done) | rfl | exact absurd rfl h | (simp; done))
theorem m_X8_keeps_1 (v1 : Int32) (v2 : Int32) (M : Mem) : Rto C_X8_keeps (0, [some (.ref 19), some (.int v1), some (.int v2)], [], M, 0) (21, [some (.ref 19), some (.int v1), some (.int v2)], [.int (if (d_X8_isSet v1 M) = 0 then (1 : Int32) else (if (d_X8_isRule v2) = 0 then (1 : Int32) else (0 : Int32))), .ref 19], M, 0) := by
  refine Rto.trans (Rto.run 5 (congrFun (congrFun (congrFun b_X8_keeps_0 v1) v2) M)) ?_
  by_cases h : (d_X8_isSet v1 M) = 0
  · refine Rto.trans (Rto.brT (q := 20) h rfl) ?_
    refine Rto.trans (Rto.run 1 (congrFun (congrFun (congrFun b_X8_keeps_1 v1) v2) M)) ?_
    exact Rto.eq (by first | (simp only [if_pos h]; done) | rfl | exact absurd rfl h | (simp; done))
  · refine Rto.trans (Rto.brF (q := 9) h rfl) ?_
    refine Rto.trans (m_X8_keeps_0 v1 v2 M) ?_
    exact Rto.eq (by first | (simp only [if_neg h]; done) | rfl | exact absurd rfl h | (simp; done))
set_option maxRecDepth 100000 in
theorem b_X8_keeps_5 : (fun (v1 : Int32) (v2 : Int32) (M : Mem) => run C_X8_keeps 4 (21, [some (.ref 19), some (.int v1), some (.int v2)], [.int (if (d_X8_isSet v1 M) = 0 then (1 : Int32) else (if (d_X8_isRule v2) = 0 then (1 : Int32) else (0 : Int32))), .ref 19], M, 0)) = (fun (v1 : Int32) (v2 : Int32) (M : Mem) => some (.inl ((br (!decide ((if (d_X8_isSet v1 M) = 0 then (1 : Int32) else (if (d_X8_isRule v2) = 0 then (1 : Int32) else (0 : Int32))) = 0)) 28 3 (21)), [some (.ref 19), some (.int v1), some (.int v2)], [], (sI M 19 15 (if (d_X8_isSet v1 M) = 0 then (1 : Int32) else (if (d_X8_isRule v2) = 0 then (1 : Int32) else (0 : Int32)))), 0))) := by rfl
set_option maxRecDepth 100000 in
theorem b_X8_keeps_6 : (fun (v1 : Int32) (v2 : Int32) (M : Mem) => run C_X8_keeps 4 (31, [some (.ref 19), some (.int v1), some (.int v2)], [], (sI M 19 15 (if (d_X8_isSet v1 M) = 0 then (1 : Int32) else (if (d_X8_isRule v2) = 0 then (1 : Int32) else (0 : Int32)))), 0)) = (fun (v1 : Int32) (v2 : Int32) (M : Mem) => some (.inl (37, [some (.ref 19), some (.int v1), some (.int v2)], [.int v1, .ref 20, .ref 19], (sI M 19 15 (if (d_X8_isSet v1 M) = 0 then (1 : Int32) else (if (d_X8_isRule v2) = 0 then (1 : Int32) else (0 : Int32)))), 0))) := by rfl
set_option maxRecDepth 100000 in
theorem b_X8_keeps_7 : (fun (v1 : Int32) (v2 : Int32) (M : Mem) => stp C_X8_keeps (37, [some (.ref 19), some (.int v1), some (.int v2)], [.int v1, .ref 20, .ref 19], (sI M 19 15 (if (d_X8_isSet v1 M) = 0 then (1 : Int32) else (if (d_X8_isRule v2) = 0 then (1 : Int32) else (0 : Int32)))), 0)) = (fun (v1 : Int32) (v2 : Int32) (M : Mem) => (if inb v1 30 = true then some (.inl (38, [some (.ref 19), some (.int v1), some (.int v2)], [.long (M.2 20 (ix v1)), .ref 19], (sI M 19 15 (if (d_X8_isSet v1 M) = 0 then (1 : Int32) else (if (d_X8_isRule v2) = 0 then (1 : Int32) else (0 : Int32)))), 0)) else none)) := by rfl
set_option maxRecDepth 100000 in
theorem b_X8_keeps_8 : (fun (v1 : Int32) (v2 : Int32) (M : Mem) => run C_X8_keeps 1 (38, [some (.ref 19), some (.int v1), some (.int v2)], [.long (M.2 20 (ix v1)), .ref 19], (sI M 19 15 (if (d_X8_isSet v1 M) = 0 then (1 : Int32) else (if (d_X8_isRule v2) = 0 then (1 : Int32) else (0 : Int32)))), 0)) = (fun (v1 : Int32) (v2 : Int32) (M : Mem) => some (.inl (39, [some (.ref 19), some (.int v1), some (.int v2)], [.int v2, .long (M.2 20 (ix v1)), .ref 19], (sI M 19 15 (if (d_X8_isSet v1 M) = 0 then (1 : Int32) else (if (d_X8_isRule v2) = 0 then (1 : Int32) else (0 : Int32)))), 0))) := by rfl
set_option maxRecDepth 100000 in
theorem b_X8_keeps_9 : (fun (v1 : Int32) (v2 : Int32) (M : Mem) (w1 : Int32) => run C_X8_keeps 1 (42, [some (.ref 19), some (.int v1), some (.int v2)], [.int w1], (sI M 19 15 (if (d_X8_isSet v1 M) = 0 then (1 : Int32) else (if (d_X8_isRule v2) = 0 then (1 : Int32) else (0 : Int32)))), 0)) = (fun (v1 : Int32) (v2 : Int32) (M : Mem) (w1 : Int32) => some (.inl ((br (decide (w1 = 0)) 42 3 (7)), [some (.ref 19), some (.int v1), some (.int v2)], [], (sI M 19 15 (if (d_X8_isSet v1 M) = 0 then (1 : Int32) else (if (d_X8_isRule v2) = 0 then (1 : Int32) else (0 : Int32)))), 0))) := by rfl
set_option maxRecDepth 100000 in
theorem b_X8_keeps_10 : (fun (v1 : Int32) (v2 : Int32) (M : Mem) => run C_X8_keeps 2 (49, [some (.ref 19), some (.int v1), some (.int v2)], [], (sI M 19 15 (if (d_X8_isSet v1 M) = 0 then (1 : Int32) else (if (d_X8_isRule v2) = 0 then (1 : Int32) else (0 : Int32)))), 0)) = (fun (v1 : Int32) (v2 : Int32) (M : Mem) => some (.inr (.inl (some (.int (0 : Int32))), (sI M 19 15 (if (d_X8_isSet v1 M) = 0 then (1 : Int32) else (if (d_X8_isRule v2) = 0 then (1 : Int32) else (0 : Int32)))), 0))) := by rfl
set_option maxRecDepth 100000 in
theorem b_X8_keeps_11 : (fun (v1 : Int32) (v2 : Int32) (M : Mem) => run C_X8_keeps 3 (45, [some (.ref 19), some (.int v1), some (.int v2)], [], (sI M 19 15 (if (d_X8_isSet v1 M) = 0 then (1 : Int32) else (if (d_X8_isRule v2) = 0 then (1 : Int32) else (0 : Int32)))), 0)) = (fun (v1 : Int32) (v2 : Int32) (M : Mem) => some (.inr (.inl (some (.int (1 : Int32))), (sI M 19 15 (if (d_X8_isSet v1 M) = 0 then (1 : Int32) else (if (d_X8_isRule v2) = 0 then (1 : Int32) else (0 : Int32)))), 0))) := by rfl
set_option maxRecDepth 100000 in
theorem b_X8_keeps_12 : (fun (v1 : Int32) (v2 : Int32) (M : Mem) => run C_X8_keeps 2 (49, [some (.ref 19), some (.int v1), some (.int v2)], [], (sI M 19 15 (if (d_X8_isSet v1 M) = 0 then (1 : Int32) else (if (d_X8_isRule v2) = 0 then (1 : Int32) else (0 : Int32)))), 0)) = (fun (v1 : Int32) (v2 : Int32) (M : Mem) => some (.inr (.inl (some (.int (0 : Int32))), (sI M 19 15 (if (d_X8_isSet v1 M) = 0 then (1 : Int32) else (if (d_X8_isRule v2) = 0 then (1 : Int32) else (0 : Int32)))), 0))) := by rfl
def d_X8_keeps (v1 : Int32) (v2 : Int32) (M : Mem) : Option (Res × Mem) := (if (if (d_X8_isSet v1 M) = 0 then (1 : Int32) else (if (d_X8_isRule v2) = 0 then (1 : Int32) else (0 : Int32))) = 0 then (if inb v1 30 = true then ((d_X8_keepsRule (M.2 20 (ix v1)) v2 (sI M 19 15 (if (d_X8_isSet v1 M) = 0 then (1 : Int32) else (if (d_X8_isRule v2) = 0 then (1 : Int32) else (0 : Int32))))).bind fun w1 => (if w1 = 0 then some (.inl (some (.int (0 : Int32))), (sI M 19 15 (if (d_X8_isSet v1 M) = 0 then (1 : Int32) else (if (d_X8_isRule v2) = 0 then (1 : Int32) else (0 : Int32))))) else some (.inl (some (.int (1 : Int32))), (sI M 19 15 (if (d_X8_isSet v1 M) = 0 then (1 : Int32) else (if (d_X8_isRule v2) = 0 then (1 : Int32) else (0 : Int32))))))) else none) else some (.inl (some (.int (0 : Int32))), (sI M 19 15 (if (d_X8_isSet v1 M) = 0 then (1 : Int32) else (if (d_X8_isRule v2) = 0 then (1 : Int32) else (0 : Int32))))))
set_option maxHeartbeats 2000000 in
theorem r_X8_keeps (v1 : Int32) (v2 : Int32) (M : Mem) : RG C_X8_keeps (0, [some (.ref 19), some (.int v1), some (.int v2)], [], M, 0) (d_X8_keeps v1 v2 M) (fun r => .inr r) := by
  unfold d_X8_keeps
  refine RG.step (m_X8_keeps_1 v1 v2 M) ?_
  refine RG.st 4 (congrFun (congrFun (congrFun b_X8_keeps_5 v1) v2) M) ?_
  refine RG.ite (fun h1 => RG.brNF (q := 31) h1 rfl ?_) (fun h1 => RG.brNT (q := 49) h1 rfl ?_)
  · refine RG.st 4 (congrFun (congrFun (congrFun b_X8_keeps_6 v1) v2) M) ?_
    refine RG.guard (fun h2 => RG.st 1 (stp_g h2 (congrFun (congrFun (congrFun b_X8_keeps_7 v1) v2) M)) ?_)
    refine RG.st 1 (congrFun (congrFun (congrFun b_X8_keeps_8 v1) v2) M) ?_
    refine RG.bind (fun w1 h3 => RG.st 1 (run_callV (v := some (.int w1)) rfl rfl rfl rfl rfl (bindI h3)) ?_)
    show RG C_X8_keeps (42, [some (.ref 19), some (.int v1), some (.int v2)], [.int w1], (sI M 19 15 (if (d_X8_isSet v1 M) = 0 then (1 : Int32) else (if (d_X8_isRule v2) = 0 then (1 : Int32) else (0 : Int32)))), 0) _ _
    refine RG.st 1 (congrFun (congrFun (congrFun (congrFun b_X8_keeps_9 v1) v2) M) w1) ?_
    refine RG.ite (fun h4 => RG.brT (q := 49) h4 rfl ?_) (fun h4 => RG.brF (q := 45) h4 rfl ?_)
    · exact RG.fin rfl (Rend.run 2 (congrFun (congrFun (congrFun b_X8_keeps_10 v1) v2) M))
    · exact RG.fin rfl (Rend.run 3 (congrFun (congrFun (congrFun b_X8_keeps_11 v1) v2) M))
  · exact RG.fin rfl (Rend.run 2 (congrFun (congrFun (congrFun b_X8_keeps_12 v1) v2) M))
def fn_X8_keeps : Fn := fun av M => match av with
  | [.ref r0, .int v1, .int v2] => bif Nat.beq r0 19 then (d_X8_keeps v1 v2 M) else (none)
  | _ => none
theorem cfg_X8_keeps : CfgOK RX8 cX8_keeps (C_X8_keeps) 7 := ⟨tk_X8_keeps, csF_nd, flk_X8, (List.forall_mem_cons.mpr ⟨Or.inr ⟨yX8_isSet, cX8_isSet, 2, (some .boolean), none, 2, ok_X8_isSet, by decide, by decide, w_code_SumsetryModel_isSet__I_Z, w_initialized_SumsetryModel, ⟨by decide, by decide⟩, Or.inr (Or.inr ⟨rfl, rfl, show (parseMethodDescriptor yX8_isSet.desc).map (fun d => d.parameters.length + 1) = some 2 from by decide +kernel, w_methodLink_SumsetryModel_96, w_instanceMethod_SumsetryModel_isSet__I_Z, w_selects_SumsetryModel_isSet__I_Z, ⟨_, rfl, rfl⟩⟩)⟩,
    List.forall_mem_cons.mpr ⟨Or.inr ⟨yX8_isRule, cX8_isRule, 1, (some .boolean), none, 2, ok_X8_isRule, by decide, by decide, w_code_SumsetryModel_isRule__I_Z, w_initialized_SumsetryModel, ⟨by decide, by decide⟩, Or.inl ⟨rfl, show (parseMethodDescriptor yX8_isRule.desc).map (fun d => d.parameters.length) = some 1 from by decide +kernel, w_methodLink_SumsetryModel_163, w_static_SumsetryModel_isRule__I_Z⟩⟩,
    List.forall_mem_cons.mpr ⟨Or.inr ⟨yX8_keepsRule, cX8_keepsRule, 4, (some .boolean), none, 6, ok_X8_keepsRule, by decide, by decide, w_code_SumsetryModel_keepsRule__JI_Z, w_initialized_SumsetryModel, ⟨by decide, by decide⟩, Or.inr (Or.inr ⟨rfl, rfl, show (parseMethodDescriptor yX8_keepsRule.desc).map (fun d => d.parameters.length + 1) = some 3 from by decide +kernel, w_methodLink_SumsetryModel_166, w_instanceMethod_SumsetryModel_keepsRule__JI_Z, w_selects_SumsetryModel_keepsRule__JI_Z, ⟨_, rfl, rfl⟩⟩)⟩, fun _ h => absurd h List.not_mem_nil⟩⟩⟩), ink_X8, lgk_X8, fun e h => absurd h List.not_mem_nil, (fun h hh => absurd hh List.not_mem_nil)⟩
theorem ok_X8_keeps : OkM csF yX8_keeps (Cond.code yX8_keeps cX8_keeps 3 (some .boolean)) 7 0 fn_X8_keeps :=
  OkM_of (own := RX8) (C := C_X8_keeps) (by decide +kernel) rfl (cfg_X8_keeps) rfl rfl rfl rfl (by
    intro av M o M' h
    unfold fn_X8_keeps at h
    split at h
    · rename_i r0 v1 v2
      rcases bif_cs h with ⟨hb, h⟩ | ⟨-, h⟩
      · skip
        have hr0 := hb
        obtain rfl := Nat.eq_of_beq_eq_true hr0
        exact ⟨rfl, Nat.le_of_ble_eq_true rfl, (r_X8_keeps v1 v2 M) (o, M') h⟩
      · cases h
    · cases h)
