/-! methods: X8_greatestOf, X8_greatest, X8_greatestAnew -/
def t_X8_greatestOf : List (Nat × Instr × Nat) := [(0, .aload_n 0, 1), (1, .aload_n 0, 1), (2, .iload_n 1, 1), (3, .invokevirtual 96, 3), (6, .ifCond .eq 10, 3), (9, .iload_n 2, 1), (10, .invokestatic 163, 3), (13, .ifCond .ne 7, 3), (16, .iconst 1, 1), (17, .goto 22, 3), (20, .aload_n 0, 1), (21, .getfield 16, 3), (24, .iload_n 1, 1), (25, .laload, 1), (26, .invokestatic 115, 3), (29, .bipush 12, 2), (31, .if_icmp .le 7, 3), (34, .iconst 2, 1), (35, .goto 4, 3), (38, .iconst 0, 1), (39, .putfield 46, 3), (42, .aload_n 0, 1), (43, .getfield 46, 3), (46, .ifCond .le 5, 3), (49, .lconst 0, 1), (50, .lreturn, 1), (51, .lconst 0, 1), (52, .lstore_n 3, 1), (53, .lconst 0, 1), (54, .lstore 5, 2), (56, .lload 5, 2), (58, .aload_n 0, 1), (59, .getfield 16, 3), (62, .iload_n 1, 1), (63, .laload, 1), (64, .lsub, 1), (65, .aload_n 0, 1), (66, .getfield 16, 3), (69, .iload_n 1, 1), (70, .laload, 1), (71, .land, 1), (72, .lstore 5, 2), (74, .lload 5, 2), (76, .invokestatic 115, 3), (79, .lload_n 3, 1), (80, .invokestatic 115, 3), (83, .if_icmp .le 18, 3), (86, .aload_n 0, 1), (87, .lload 5, 2), (89, .iload_n 2, 1), (90, .invokevirtual 166, 3), (93, .ifCond .eq 8, 3), (96, .lload 5, 2), (98, .goto 4, 3), (101, .lload_n 3, 1), (102, .lstore_n 3, 1), (103, .lload 5, 2), (105, .lconst 0, 1), (106, .lcmp, 1), (107, .ifCond .ne (-51), 3), (110, .lload_n 3, 1), (111, .lreturn, 1)]
theorem tk_X8_greatestOf : ∀ x ∈ t_X8_greatestOf, decode cX8_greatestOf x.1 = .ok x.2 := by decide +kernel
def C_X8_greatestOf : Cfg := (t_X8_greatestOf, csF, fl_X8, [(96, 2, 6, 2, 0, fn_X8_isSet), (115, 0, 6, 1, 0, fn_X8_many), (163, 0, 6, 1, 0, fn_X8_isRule), (166, 2, 6, 3, 0, fn_X8_keepsRule)], in_X8, lg_X8, [], [], none, (some .long), 0)
set_option maxRecDepth 100000 in
theorem b_X8_greatestOf_0 : (fun (v1 : Int32) (v2 : Int32) (M : Mem) => run C_X8_greatestOf 5 (0, [some (.ref 19), some (.int v1), some (.int v2), none, none, none, none], [], M, 0)) = (fun (v1 : Int32) (v2 : Int32) (M : Mem) => some (.inl ((br (decide ((d_X8_isSet v1 M) = 0)) 6 3 (10)), [some (.ref 19), some (.int v1), some (.int v2), none, none, none, none], [.ref 19], M, 0))) := by rfl
set_option maxRecDepth 100000 in
theorem b_X8_greatestOf_1 : (fun (v1 : Int32) (v2 : Int32) (M : Mem) => run C_X8_greatestOf 6 (16, [some (.ref 19), some (.int v1), some (.int v2), none, none, none, none], [.ref 19], M, 0)) = (fun (v1 : Int32) (v2 : Int32) (M : Mem) => some (.inl ((br (decide ((1 : Int32) ≤ 0)) 46 3 (5)), [some (.ref 19), some (.int v1), some (.int v2), none, none, none, none], [], (sI M 19 15 (1 : Int32)), 0))) := by rfl
set_option maxRecDepth 100000 in
theorem b_X8_greatestOf_2 : (fun (v1 : Int32) (v2 : Int32) (M : Mem) => run C_X8_greatestOf 4 (51, [some (.ref 19), some (.int v1), some (.int v2), none, none, none, none], [], (sI M 19 15 (1 : Int32)), 0)) = (fun (v1 : Int32) (v2 : Int32) (M : Mem) => some (.inl (56, [some (.ref 19), some (.int v1), some (.int v2), some (.long (0 : Int64)), none, some (.long (0 : Int64)), none], [], (sI M 19 15 (1 : Int32)), 0))) := by rfl
set_option maxRecDepth 100000 in
theorem b_X8_greatestOf_3 : (fun (v1 : Int32) (v2 : Int32) (M : Mem) (a1 : (Int64 × Int64)) => run C_X8_greatestOf 4 (56, [some (.ref 19), some (.int v1), some (.int v2), some (.long a1.1), none, some (.long a1.2), none], [], (sI M 19 15 (1 : Int32)), 0)) = (fun (v1 : Int32) (v2 : Int32) (M : Mem) (a1 : (Int64 × Int64)) => some (.inl (63, [some (.ref 19), some (.int v1), some (.int v2), some (.long a1.1), none, some (.long a1.2), none], [.int v1, .ref 20, .long a1.2], (sI M 19 15 (1 : Int32)), 0))) := by rfl
set_option maxRecDepth 100000 in
theorem b_X8_greatestOf_4 : (fun (v1 : Int32) (v2 : Int32) (M : Mem) (a1 : (Int64 × Int64)) => stp C_X8_greatestOf (63, [some (.ref 19), some (.int v1), some (.int v2), some (.long a1.1), none, some (.long a1.2), none], [.int v1, .ref 20, .long a1.2], (sI M 19 15 (1 : Int32)), 0)) = (fun (v1 : Int32) (v2 : Int32) (M : Mem) (a1 : (Int64 × Int64)) => (if inb v1 30 = true then some (.inl (64, [some (.ref 19), some (.int v1), some (.int v2), some (.long a1.1), none, some (.long a1.2), none], [.long (M.2 20 (ix v1)), .long a1.2], (sI M 19 15 (1 : Int32)), 0)) else none)) := by rfl
set_option maxRecDepth 100000 in
theorem b_X8_greatestOf_5 : (fun (v1 : Int32) (v2 : Int32) (M : Mem) (a1 : (Int64 × Int64)) => run C_X8_greatestOf 4 (64, [some (.ref 19), some (.int v1), some (.int v2), some (.long a1.1), none, some (.long a1.2), none], [.long (M.2 20 (ix v1)), .long a1.2], (sI M 19 15 (1 : Int32)), 0)) = (fun (v1 : Int32) (v2 : Int32) (M : Mem) (a1 : (Int64 × Int64)) => some (.inl (70, [some (.ref 19), some (.int v1), some (.int v2), some (.long a1.1), none, some (.long a1.2), none], [.int v1, .ref 20, .long (a1.2 - (M.2 20 (ix v1)))], (sI M 19 15 (1 : Int32)), 0))) := by rfl
set_option maxRecDepth 100000 in
theorem b_X8_greatestOf_6 : (fun (v1 : Int32) (v2 : Int32) (M : Mem) (a1 : (Int64 × Int64)) => stp C_X8_greatestOf (70, [some (.ref 19), some (.int v1), some (.int v2), some (.long a1.1), none, some (.long a1.2), none], [.int v1, .ref 20, .long (a1.2 - (M.2 20 (ix v1)))], (sI M 19 15 (1 : Int32)), 0)) = (fun (v1 : Int32) (v2 : Int32) (M : Mem) (a1 : (Int64 × Int64)) => (if inb v1 30 = true then some (.inl (71, [some (.ref 19), some (.int v1), some (.int v2), some (.long a1.1), none, some (.long a1.2), none], [.long (M.2 20 (ix v1)), .long (a1.2 - (M.2 20 (ix v1)))], (sI M 19 15 (1 : Int32)), 0)) else none)) := by rfl
set_option maxRecDepth 100000 in
theorem b_X8_greatestOf_7 : (fun (v1 : Int32) (v2 : Int32) (M : Mem) (a1 : (Int64 × Int64)) => run C_X8_greatestOf 3 (71, [some (.ref 19), some (.int v1), some (.int v2), some (.long a1.1), none, some (.long a1.2), none], [.long (M.2 20 (ix v1)), .long (a1.2 - (M.2 20 (ix v1)))], (sI M 19 15 (1 : Int32)), 0)) = (fun (v1 : Int32) (v2 : Int32) (M : Mem) (a1 : (Int64 × Int64)) => some (.inl (76, [some (.ref 19), some (.int v1), some (.int v2), some (.long a1.1), none, some (.long ((a1.2 - (M.2 20 (ix v1))) &&& (M.2 20 (ix v1)))), none], [.long ((a1.2 - (M.2 20 (ix v1))) &&& (M.2 20 (ix v1)))], (sI M 19 15 (1 : Int32)), 0))) := by rfl
set_option maxRecDepth 100000 in
theorem b_X8_greatestOf_8 : (fun (v1 : Int32) (v2 : Int32) (M : Mem) (a1 : (Int64 × Int64)) (w1 : Int32) => run C_X8_greatestOf 1 (79, [some (.ref 19), some (.int v1), some (.int v2), some (.long a1.1), none, some (.long ((a1.2 - (M.2 20 (ix v1))) &&& (M.2 20 (ix v1)))), none], [.int w1], (sI M 19 15 (1 : Int32)), 0)) = (fun (v1 : Int32) (v2 : Int32) (M : Mem) (a1 : (Int64 × Int64)) (w1 : Int32) => some (.inl (80, [some (.ref 19), some (.int v1), some (.int v2), some (.long a1.1), none, some (.long ((a1.2 - (M.2 20 (ix v1))) &&& (M.2 20 (ix v1)))), none], [.long a1.1, .int w1], (sI M 19 15 (1 : Int32)), 0))) := by rfl
set_option maxRecDepth 100000 in
theorem b_X8_greatestOf_9 : (fun (v1 : Int32) (v2 : Int32) (M : Mem) (a1 : (Int64 × Int64)) (w1 : Int32) (w2 : Int32) => run C_X8_greatestOf 1 (83, [some (.ref 19), some (.int v1), some (.int v2), some (.long a1.1), none, some (.long ((a1.2 - (M.2 20 (ix v1))) &&& (M.2 20 (ix v1)))), none], [.int w2, .int w1], (sI M 19 15 (1 : Int32)), 0)) = (fun (v1 : Int32) (v2 : Int32) (M : Mem) (a1 : (Int64 × Int64)) (w1 : Int32) (w2 : Int32) => some (.inl ((br (decide (w1 ≤ w2)) 83 3 (18)), [some (.ref 19), some (.int v1), some (.int v2), some (.long a1.1), none, some (.long ((a1.2 - (M.2 20 (ix v1))) &&& (M.2 20 (ix v1)))), none], [], (sI M 19 15 (1 : Int32)), 0))) := by rfl
set_option maxRecDepth 100000 in
theorem b_X8_greatestOf_10 : (fun (v1 : Int32) (v2 : Int32) (M : Mem) (a1 : (Int64 × Int64)) => run C_X8_greatestOf 6 (101, [some (.ref 19), some (.int v1), some (.int v2), some (.long a1.1), none, some (.long ((a1.2 - (M.2 20 (ix v1))) &&& (M.2 20 (ix v1)))), none], [], (sI M 19 15 (1 : Int32)), 0)) = (fun (v1 : Int32) (v2 : Int32) (M : Mem) (a1 : (Int64 × Int64)) => some (.inl ((br (!decide ((lg_cmp ((a1.2 - (M.2 20 (ix v1))) &&& (M.2 20 (ix v1))) (0 : Int64)) = 0)) 107 3 (-51)), [some (.ref 19), some (.int v1), some (.int v2), some (.long a1.1), none, some (.long ((a1.2 - (M.2 20 (ix v1))) &&& (M.2 20 (ix v1)))), none], [], (sI M 19 15 (1 : Int32)), 0))) := by rfl
set_option maxRecDepth 100000 in
theorem b_X8_greatestOf_11 : (fun (v1 : Int32) (v2 : Int32) (M : Mem) (a1 : (Int64 × Int64)) => run C_X8_greatestOf 3 (86, [some (.ref 19), some (.int v1), some (.int v2), some (.long a1.1), none, some (.long ((a1.2 - (M.2 20 (ix v1))) &&& (M.2 20 (ix v1)))), none], [], (sI M 19 15 (1 : Int32)), 0)) = (fun (v1 : Int32) (v2 : Int32) (M : Mem) (a1 : (Int64 × Int64)) => some (.inl (90, [some (.ref 19), some (.int v1), some (.int v2), some (.long a1.1), none, some (.long ((a1.2 - (M.2 20 (ix v1))) &&& (M.2 20 (ix v1)))), none], [.int v2, .long ((a1.2 - (M.2 20 (ix v1))) &&& (M.2 20 (ix v1))), .ref 19], (sI M 19 15 (1 : Int32)), 0))) := by rfl
set_option maxRecDepth 100000 in
theorem b_X8_greatestOf_12 : (fun (v1 : Int32) (v2 : Int32) (M : Mem) (a1 : (Int64 × Int64)) (w3 : Int32) => run C_X8_greatestOf 1 (93, [some (.ref 19), some (.int v1), some (.int v2), some (.long a1.1), none, some (.long ((a1.2 - (M.2 20 (ix v1))) &&& (M.2 20 (ix v1)))), none], [.int w3], (sI M 19 15 (1 : Int32)), 0)) = (fun (v1 : Int32) (v2 : Int32) (M : Mem) (a1 : (Int64 × Int64)) (w3 : Int32) => some (.inl ((br (decide (w3 = 0)) 93 3 (8)), [some (.ref 19), some (.int v1), some (.int v2), some (.long a1.1), none, some (.long ((a1.2 - (M.2 20 (ix v1))) &&& (M.2 20 (ix v1)))), none], [], (sI M 19 15 (1 : Int32)), 0))) := by rfl
set_option maxRecDepth 100000 in
theorem b_X8_greatestOf_13 : (fun (v1 : Int32) (v2 : Int32) (M : Mem) (a1 : (Int64 × Int64)) => run C_X8_greatestOf 1 (101, [some (.ref 19), some (.int v1), some (.int v2), some (.long a1.1), none, some (.long ((a1.2 - (M.2 20 (ix v1))) &&& (M.2 20 (ix v1)))), none], [], (sI M 19 15 (1 : Int32)), 0)) = (fun (v1 : Int32) (v2 : Int32) (M : Mem) (a1 : (Int64 × Int64)) => some (.inl (102, [some (.ref 19), some (.int v1), some (.int v2), some (.long a1.1), none, some (.long ((a1.2 - (M.2 20 (ix v1))) &&& (M.2 20 (ix v1)))), none], [.long a1.1], (sI M 19 15 (1 : Int32)), 0))) := by rfl
set_option maxRecDepth 100000 in
theorem b_X8_greatestOf_14 : (fun (v1 : Int32) (v2 : Int32) (M : Mem) (a1 : (Int64 × Int64)) => run C_X8_greatestOf 2 (96, [some (.ref 19), some (.int v1), some (.int v2), some (.long a1.1), none, some (.long ((a1.2 - (M.2 20 (ix v1))) &&& (M.2 20 (ix v1)))), none], [], (sI M 19 15 (1 : Int32)), 0)) = (fun (v1 : Int32) (v2 : Int32) (M : Mem) (a1 : (Int64 × Int64)) => some (.inl (102, [some (.ref 19), some (.int v1), some (.int v2), some (.long a1.1), none, some (.long ((a1.2 - (M.2 20 (ix v1))) &&& (M.2 20 (ix v1)))), none], [.long ((a1.2 - (M.2 20 (ix v1))) &&& (M.2 20 (ix v1)))], (sI M 19 15 (1 : Int32)), 0))) := by rfl
theorem m_X8_greatestOf_0 (v1 : Int32) (v2 : Int32) (M : Mem) (a1 : (Int64 × Int64)) (w3 : Int32) : Rto C_X8_greatestOf (93, [some (.ref 19), some (.int v1), some (.int v2), some (.long a1.1), none, some (.long ((a1.2 - (M.2 20 (ix v1))) &&& (M.2 20 (ix v1)))), none], [.int w3], (sI M 19 15 (1 : Int32)), 0) (102, [some (.ref 19), some (.int v1), some (.int v2), some (.long a1.1), none, some (.long ((a1.2 - (M.2 20 (ix v1))) &&& (M.2 20 (ix v1)))), none], [.long (if w3 = 0 then a1.1 else ((a1.2 - (M.2 20 (ix v1))) &&& (M.2 20 (ix v1))))], (sI M 19 15 (1 : Int32)), 0) := by
  refine Rto.trans (Rto.run 1 (congrFun (congrFun (congrFun (congrFun (congrFun b_X8_greatestOf_12 v1) v2) M) a1) w3)) ?_
  by_cases h : w3 = 0
  · refine Rto.trans (Rto.brT (q := 101) h rfl) ?_
    refine Rto.trans (Rto.run 1 (congrFun (congrFun (congrFun (congrFun b_X8_greatestOf_13 v1) v2) M) a1)) ?_
    exact Rto.eq (by first | simp only [if_pos h] | rfl)
  · refine Rto.trans (Rto.brF (q := 96) h rfl) ?_
    refine Rto.trans (Rto.run 2 (congrFun (congrFun (congrFun (congrFun b_X8_greatestOf_14 v1) v2) M) a1)) ?_
    exact Rto.eq (by first | simp only [if_neg h] | rfl)
set_option maxRecDepth 100000 in
theorem b_X8_greatestOf_15 : (fun (v1 : Int32) (v2 : Int32) (M : Mem) (a1 : (Int64 × Int64)) (w3 : Int32) => run C_X8_greatestOf 5 (102, [some (.ref 19), some (.int v1), some (.int v2), some (.long a1.1), none, some (.long ((a1.2 - (M.2 20 (ix v1))) &&& (M.2 20 (ix v1)))), none], [.long (if w3 = 0 then a1.1 else ((a1.2 - (M.2 20 (ix v1))) &&& (M.2 20 (ix v1))))], (sI M 19 15 (1 : Int32)), 0)) = (fun (v1 : Int32) (v2 : Int32) (M : Mem) (a1 : (Int64 × Int64)) (w3 : Int32) => some (.inl ((br (!decide ((lg_cmp ((a1.2 - (M.2 20 (ix v1))) &&& (M.2 20 (ix v1))) (0 : Int64)) = 0)) 107 3 (-51)), [some (.ref 19), some (.int v1), some (.int v2), some (.long (if w3 = 0 then a1.1 else ((a1.2 - (M.2 20 (ix v1))) &&& (M.2 20 (ix v1))))), none, some (.long ((a1.2 - (M.2 20 (ix v1))) &&& (M.2 20 (ix v1)))), none], [], (sI M 19 15 (1 : Int32)), 0))) := by rfl
def g_X8_greatestOf_1 (v1 : Int32) (v2 : Int32) (M : Mem) : Int64 × Int64 → Option ((Int64 × Int64) ⊕ ((Int64 × Int64) ⊕ (Res × Mem))) := fun (a1 : Int64 × Int64) => (if inb v1 30 = true then (if inb v1 30 = true then ((d_X8_many ((a1.2 - (M.2 20 (ix v1))) &&& (M.2 20 (ix v1)))).bind fun w1 => ((d_X8_many a1.1).bind fun w2 => (if w1 ≤ w2 then (if (lg_cmp ((a1.2 - (M.2 20 (ix v1))) &&& (M.2 20 (ix v1))) (0 : Int64)) = 0 then some (.inr (.inl (a1.1, ((a1.2 - (M.2 20 (ix v1))) &&& (M.2 20 (ix v1)))))) else some (.inl (a1.1, ((a1.2 - (M.2 20 (ix v1))) &&& (M.2 20 (ix v1)))))) else ((d_X8_keepsRule ((a1.2 - (M.2 20 (ix v1))) &&& (M.2 20 (ix v1))) v2 (sI M 19 15 (1 : Int32))).bind fun w3 => (if (lg_cmp ((a1.2 - (M.2 20 (ix v1))) &&& (M.2 20 (ix v1))) (0 : Int64)) = 0 then some (.inr (.inl ((if w3 = 0 then a1.1 else ((a1.2 - (M.2 20 (ix v1))) &&& (M.2 20 (ix v1)))), ((a1.2 - (M.2 20 (ix v1))) &&& (M.2 20 (ix v1)))))) else some (.inl ((if w3 = 0 then a1.1 else ((a1.2 - (M.2 20 (ix v1))) &&& (M.2 20 (ix v1)))), ((a1.2 - (M.2 20 (ix v1))) &&& (M.2 20 (ix v1)))))))))) else none) else none)
set_option maxHeartbeats 2000000 in
theorem l_X8_greatestOf_1 (v1 : Int32) (v2 : Int32) (M : Mem) : ∀ a1 : Int64 × Int64, RG C_X8_greatestOf ((fun (a1 : Int64 × Int64) => (56, [some (.ref 19), some (.int v1), some (.int v2), some (.long a1.1), none, some (.long a1.2), none], [], (sI M 19 15 (1 : Int32)), 0)) a1) (g_X8_greatestOf_1 v1 v2 M a1) (lpP (fun (a1 : Int64 × Int64) => (56, [some (.ref 19), some (.int v1), some (.int v2), some (.long a1.1), none, some (.long a1.2), none], [], (sI M 19 15 (1 : Int32)), 0)) (fun (a1 : Int64 × Int64) => (110, [some (.ref 19), some (.int v1), some (.int v2), some (.long a1.1), none, some (.long a1.2), none], [], (sI M 19 15 (1 : Int32)), 0)) id) := by
  intro a1
  unfold g_X8_greatestOf_1
  show RG C_X8_greatestOf (56, [some (.ref 19), some (.int v1), some (.int v2), some (.long a1.1), none, some (.long a1.2), none], [], (sI M 19 15 (1 : Int32)), 0) _ _
  refine RG.st 4 (congrFun (congrFun (congrFun (congrFun b_X8_greatestOf_3 v1) v2) M) a1) ?_
  refine RG.guard (fun h3 => RG.st 1 (stp_g h3 (congrFun (congrFun (congrFun (congrFun b_X8_greatestOf_4 v1) v2) M) a1)) ?_)
  refine RG.st 4 (congrFun (congrFun (congrFun (congrFun b_X8_greatestOf_5 v1) v2) M) a1) ?_
  refine RG.guard (fun h4 => RG.st 1 (stp_g h4 (congrFun (congrFun (congrFun (congrFun b_X8_greatestOf_6 v1) v2) M) a1)) ?_)
  refine RG.st 3 (congrFun (congrFun (congrFun (congrFun b_X8_greatestOf_7 v1) v2) M) a1) ?_
  refine RG.bind (fun w1 h5 => RG.st 1 (run_callS (v := some (.int w1)) rfl rfl rfl rfl (bindI h5)) ?_)
  show RG C_X8_greatestOf (79, [some (.ref 19), some (.int v1), some (.int v2), some (.long a1.1), none, some (.long ((a1.2 - (M.2 20 (ix v1))) &&& (M.2 20 (ix v1)))), none], [.int w1], (sI M 19 15 (1 : Int32)), 0) _ _
  refine RG.st 1 (congrFun (congrFun (congrFun (congrFun (congrFun b_X8_greatestOf_8 v1) v2) M) a1) w1) ?_
  refine RG.bind (fun w2 h6 => RG.st 1 (run_callS (v := some (.int w2)) rfl rfl rfl rfl (bindI h6)) ?_)
  show RG C_X8_greatestOf (83, [some (.ref 19), some (.int v1), some (.int v2), some (.long a1.1), none, some (.long ((a1.2 - (M.2 20 (ix v1))) &&& (M.2 20 (ix v1)))), none], [.int w2, .int w1], (sI M 19 15 (1 : Int32)), 0) _ _
  refine RG.st 1 (congrFun (congrFun (congrFun (congrFun (congrFun (congrFun b_X8_greatestOf_9 v1) v2) M) a1) w1) w2) ?_
  refine RG.ite (fun h7 => RG.brT (q := 101) h7 rfl ?_) (fun h7 => RG.brF (q := 86) h7 rfl ?_)
  · refine RG.st 6 (congrFun (congrFun (congrFun (congrFun b_X8_greatestOf_10 v1) v2) M) a1) ?_
    refine RG.ite (fun h8 => RG.brNF (q := 110) h8 rfl ?_) (fun h8 => RG.brNT (q := 56) h8 rfl ?_)
    · exact RG.to rfl (Rto.refl _)
    · exact RG.to rfl (Rto.refl _)
  · refine RG.st 3 (congrFun (congrFun (congrFun (congrFun b_X8_greatestOf_11 v1) v2) M) a1) ?_
    refine RG.bind (fun w3 h9 => RG.st 1 (run_callV (v := some (.int w3)) rfl rfl rfl rfl rfl (bindI h9)) ?_)
    show RG C_X8_greatestOf (93, [some (.ref 19), some (.int v1), some (.int v2), some (.long a1.1), none, some (.long ((a1.2 - (M.2 20 (ix v1))) &&& (M.2 20 (ix v1)))), none], [.int w3], (sI M 19 15 (1 : Int32)), 0) _ _
    refine RG.step (m_X8_greatestOf_0 v1 v2 M a1 w3) ?_
    refine RG.st 5 (congrFun (congrFun (congrFun (congrFun (congrFun b_X8_greatestOf_15 v1) v2) M) a1) w3) ?_
    refine RG.ite (fun h10 => RG.brNF (q := 110) h10 rfl ?_) (fun h10 => RG.brNT (q := 56) h10 rfl ?_)
    · exact RG.to rfl (Rto.refl _)
    · exact RG.to rfl (Rto.refl _)
set_option maxRecDepth 100000 in
theorem b_X8_greatestOf_16 : (fun (v1 : Int32) (v2 : Int32) (M : Mem) (a2 : (Int64 × Int64)) => run C_X8_greatestOf 2 (110, [some (.ref 19), some (.int v1), some (.int v2), some (.long a2.1), none, some (.long a2.2), none], [], (sI M 19 15 (1 : Int32)), 0)) = (fun (v1 : Int32) (v2 : Int32) (M : Mem) (a2 : (Int64 × Int64)) => some (.inr (.inl (some (.long a2.1)), (sI M 19 15 (1 : Int32)), 0))) := by rfl
set_option maxRecDepth 100000 in
theorem b_X8_greatestOf_17 : (fun (v1 : Int32) (v2 : Int32) (M : Mem) => run C_X8_greatestOf 2 (49, [some (.ref 19), some (.int v1), some (.int v2), none, none, none, none], [], (sI M 19 15 (1 : Int32)), 0)) = (fun (v1 : Int32) (v2 : Int32) (M : Mem) => some (.inr (.inl (some (.long (0 : Int64))), (sI M 19 15 (1 : Int32)), 0))) := by rfl
set_option maxRecDepth 100000 in
theorem b_X8_greatestOf_18 : (fun (v1 : Int32) (v2 : Int32) (M : Mem) => run C_X8_greatestOf 3 (9, [some (.ref 19), some (.int v1), some (.int v2), none, none, none, none], [.ref 19], M, 0)) = (fun (v1 : Int32) (v2 : Int32) (M : Mem) => some (.inl ((br (!decide ((d_X8_isRule v2) = 0)) 13 3 (7)), [some (.ref 19), some (.int v1), some (.int v2), none, none, none, none], [.ref 19], M, 0))) := by rfl
set_option maxRecDepth 100000 in
theorem b_X8_greatestOf_19 : (fun (v1 : Int32) (v2 : Int32) (M : Mem) => run C_X8_greatestOf 6 (16, [some (.ref 19), some (.int v1), some (.int v2), none, none, none, none], [.ref 19], M, 0)) = (fun (v1 : Int32) (v2 : Int32) (M : Mem) => some (.inl ((br (decide ((1 : Int32) ≤ 0)) 46 3 (5)), [some (.ref 19), some (.int v1), some (.int v2), none, none, none, none], [], (sI M 19 15 (1 : Int32)), 0))) := by rfl
set_option maxRecDepth 100000 in
theorem b_X8_greatestOf_20 : (fun (v1 : Int32) (v2 : Int32) (M : Mem) => run C_X8_greatestOf 4 (51, [some (.ref 19), some (.int v1), some (.int v2), none, none, none, none], [], (sI M 19 15 (1 : Int32)), 0)) = (fun (v1 : Int32) (v2 : Int32) (M : Mem) => some (.inl (56, [some (.ref 19), some (.int v1), some (.int v2), some (.long (0 : Int64)), none, some (.long (0 : Int64)), none], [], (sI M 19 15 (1 : Int32)), 0))) := by rfl
set_option maxRecDepth 100000 in
theorem b_X8_greatestOf_21 : (fun (v1 : Int32) (v2 : Int32) (M : Mem) (a3 : (Int64 × Int64)) => run C_X8_greatestOf 4 (56, [some (.ref 19), some (.int v1), some (.int v2), some (.long a3.1), none, some (.long a3.2), none], [], (sI M 19 15 (1 : Int32)), 0)) = (fun (v1 : Int32) (v2 : Int32) (M : Mem) (a3 : (Int64 × Int64)) => some (.inl (63, [some (.ref 19), some (.int v1), some (.int v2), some (.long a3.1), none, some (.long a3.2), none], [.int v1, .ref 20, .long a3.2], (sI M 19 15 (1 : Int32)), 0))) := by rfl
set_option maxRecDepth 100000 in
theorem b_X8_greatestOf_22 : (fun (v1 : Int32) (v2 : Int32) (M : Mem) (a3 : (Int64 × Int64)) => stp C_X8_greatestOf (63, [some (.ref 19), some (.int v1), some (.int v2), some (.long a3.1), none, some (.long a3.2), none], [.int v1, .ref 20, .long a3.2], (sI M 19 15 (1 : Int32)), 0)) = (fun (v1 : Int32) (v2 : Int32) (M : Mem) (a3 : (Int64 × Int64)) => (if inb v1 30 = true then some (.inl (64, [some (.ref 19), some (.int v1), some (.int v2), some (.long a3.1), none, some (.long a3.2), none], [.long (M.2 20 (ix v1)), .long a3.2], (sI M 19 15 (1 : Int32)), 0)) else none)) := by rfl
set_option maxRecDepth 100000 in
theorem b_X8_greatestOf_23 : (fun (v1 : Int32) (v2 : Int32) (M : Mem) (a3 : (Int64 × Int64)) => run C_X8_greatestOf 4 (64, [some (.ref 19), some (.int v1), some (.int v2), some (.long a3.1), none, some (.long a3.2), none], [.long (M.2 20 (ix v1)), .long a3.2], (sI M 19 15 (1 : Int32)), 0)) = (fun (v1 : Int32) (v2 : Int32) (M : Mem) (a3 : (Int64 × Int64)) => some (.inl (70, [some (.ref 19), some (.int v1), some (.int v2), some (.long a3.1), none, some (.long a3.2), none], [.int v1, .ref 20, .long (a3.2 - (M.2 20 (ix v1)))], (sI M 19 15 (1 : Int32)), 0))) := by rfl
set_option maxRecDepth 100000 in
theorem b_X8_greatestOf_24 : (fun (v1 : Int32) (v2 : Int32) (M : Mem) (a3 : (Int64 × Int64)) => stp C_X8_greatestOf (70, [some (.ref 19), some (.int v1), some (.int v2), some (.long a3.1), none, some (.long a3.2), none], [.int v1, .ref 20, .long (a3.2 - (M.2 20 (ix v1)))], (sI M 19 15 (1 : Int32)), 0)) = (fun (v1 : Int32) (v2 : Int32) (M : Mem) (a3 : (Int64 × Int64)) => (if inb v1 30 = true then some (.inl (71, [some (.ref 19), some (.int v1), some (.int v2), some (.long a3.1), none, some (.long a3.2), none], [.long (M.2 20 (ix v1)), .long (a3.2 - (M.2 20 (ix v1)))], (sI M 19 15 (1 : Int32)), 0)) else none)) := by rfl
set_option maxRecDepth 100000 in
theorem b_X8_greatestOf_25 : (fun (v1 : Int32) (v2 : Int32) (M : Mem) (a3 : (Int64 × Int64)) => run C_X8_greatestOf 3 (71, [some (.ref 19), some (.int v1), some (.int v2), some (.long a3.1), none, some (.long a3.2), none], [.long (M.2 20 (ix v1)), .long (a3.2 - (M.2 20 (ix v1)))], (sI M 19 15 (1 : Int32)), 0)) = (fun (v1 : Int32) (v2 : Int32) (M : Mem) (a3 : (Int64 × Int64)) => some (.inl (76, [some (.ref 19), some (.int v1), some (.int v2), some (.long a3.1), none, some (.long ((a3.2 - (M.2 20 (ix v1))) &&& (M.2 20 (ix v1)))), none], [.long ((a3.2 - (M.2 20 (ix v1))) &&& (M.2 20 (ix v1)))], (sI M 19 15 (1 : Int32)), 0))) := by rfl
set_option maxRecDepth 100000 in
theorem b_X8_greatestOf_26 : (fun (v1 : Int32) (v2 : Int32) (M : Mem) (a3 : (Int64 × Int64)) (w4 : Int32) => run C_X8_greatestOf 1 (79, [some (.ref 19), some (.int v1), some (.int v2), some (.long a3.1), none, some (.long ((a3.2 - (M.2 20 (ix v1))) &&& (M.2 20 (ix v1)))), none], [.int w4], (sI M 19 15 (1 : Int32)), 0)) = (fun (v1 : Int32) (v2 : Int32) (M : Mem) (a3 : (Int64 × Int64)) (w4 : Int32) => some (.inl (80, [some (.ref 19), some (.int v1), some (.int v2), some (.long a3.1), none, some (.long ((a3.2 - (M.2 20 (ix v1))) &&& (M.2 20 (ix v1)))), none], [.long a3.1, .int w4], (sI M 19 15 (1 : Int32)), 0))) := by rfl
set_option maxRecDepth 100000 in
theorem b_X8_greatestOf_27 : (fun (v1 : Int32) (v2 : Int32) (M : Mem) (a3 : (Int64 × Int64)) (w4 : Int32) (w5 : Int32) => run C_X8_greatestOf 1 (83, [some (.ref 19), some (.int v1), some (.int v2), some (.long a3.1), none, some (.long ((a3.2 - (M.2 20 (ix v1))) &&& (M.2 20 (ix v1)))), none], [.int w5, .int w4], (sI M 19 15 (1 : Int32)), 0)) = (fun (v1 : Int32) (v2 : Int32) (M : Mem) (a3 : (Int64 × Int64)) (w4 : Int32) (w5 : Int32) => some (.inl ((br (decide (w4 ≤ w5)) 83 3 (18)), [some (.ref 19), some (.int v1), some (.int v2), some (.long a3.1), none, some (.long ((a3.2 - (M.2 20 (ix v1))) &&& (M.2 20 (ix v1)))), none], [], (sI M 19 15 (1 : Int32)), 0))) := by rfl
set_option maxRecDepth 100000 in
theorem b_X8_greatestOf_28 : (fun (v1 : Int32) (v2 : Int32) (M : Mem) (a3 : (Int64 × Int64)) => run C_X8_greatestOf 6 (101, [some (.ref 19), some (.int v1), some (.int v2), some (.long a3.1), none, some (.long ((a3.2 - (M.2 20 (ix v1))) &&& (M.2 20 (ix v1)))), none], [], (sI M 19 15 (1 : Int32)), 0)) = (fun (v1 : Int32) (v2 : Int32) (M : Mem) (a3 : (Int64 × Int64)) => some (.inl ((br (!decide ((lg_cmp ((a3.2 - (M.2 20 (ix v1))) &&& (M.2 20 (ix v1))) (0 : Int64)) = 0)) 107 3 (-51)), [some (.ref 19), some (.int v1), some (.int v2), some (.long a3.1), none, some (.long ((a3.2 - (M.2 20 (ix v1))) &&& (M.2 20 (ix v1)))), none], [], (sI M 19 15 (1 : Int32)), 0))) := by rfl
set_option maxRecDepth 100000 in
theorem b_X8_greatestOf_29 : (fun (v1 : Int32) (v2 : Int32) (M : Mem) (a3 : (Int64 × Int64)) => run C_X8_greatestOf 3 (86, [some (.ref 19), some (.int v1), some (.int v2), some (.long a3.1), none, some (.long ((a3.2 - (M.2 20 (ix v1))) &&& (M.2 20 (ix v1)))), none], [], (sI M 19 15 (1 : Int32)), 0)) = (fun (v1 : Int32) (v2 : Int32) (M : Mem) (a3 : (Int64 × Int64)) => some (.inl (90, [some (.ref 19), some (.int v1), some (.int v2), some (.long a3.1), none, some (.long ((a3.2 - (M.2 20 (ix v1))) &&& (M.2 20 (ix v1)))), none], [.int v2, .long ((a3.2 - (M.2 20 (ix v1))) &&& (M.2 20 (ix v1))), .ref 19], (sI M 19 15 (1 : Int32)), 0))) := by rfl
set_option maxRecDepth 100000 in
theorem b_X8_greatestOf_30 : (fun (v1 : Int32) (v2 : Int32) (M : Mem) (a3 : (Int64 × Int64)) (w6 : Int32) => run C_X8_greatestOf 1 (93, [some (.ref 19), some (.int v1), some (.int v2), some (.long a3.1), none, some (.long ((a3.2 - (M.2 20 (ix v1))) &&& (M.2 20 (ix v1)))), none], [.int w6], (sI M 19 15 (1 : Int32)), 0)) = (fun (v1 : Int32) (v2 : Int32) (M : Mem) (a3 : (Int64 × Int64)) (w6 : Int32) => some (.inl ((br (decide (w6 = 0)) 93 3 (8)), [some (.ref 19), some (.int v1), some (.int v2), some (.long a3.1), none, some (.long ((a3.2 - (M.2 20 (ix v1))) &&& (M.2 20 (ix v1)))), none], [], (sI M 19 15 (1 : Int32)), 0))) := by rfl
set_option maxRecDepth 100000 in
theorem b_X8_greatestOf_31 : (fun (v1 : Int32) (v2 : Int32) (M : Mem) (a3 : (Int64 × Int64)) => run C_X8_greatestOf 1 (101, [some (.ref 19), some (.int v1), some (.int v2), some (.long a3.1), none, some (.long ((a3.2 - (M.2 20 (ix v1))) &&& (M.2 20 (ix v1)))), none], [], (sI M 19 15 (1 : Int32)), 0)) = (fun (v1 : Int32) (v2 : Int32) (M : Mem) (a3 : (Int64 × Int64)) => some (.inl (102, [some (.ref 19), some (.int v1), some (.int v2), some (.long a3.1), none, some (.long ((a3.2 - (M.2 20 (ix v1))) &&& (M.2 20 (ix v1)))), none], [.long a3.1], (sI M 19 15 (1 : Int32)), 0))) := by rfl
set_option maxRecDepth 100000 in
theorem b_X8_greatestOf_32 : (fun (v1 : Int32) (v2 : Int32) (M : Mem) (a3 : (Int64 × Int64)) => run C_X8_greatestOf 2 (96, [some (.ref 19), some (.int v1), some (.int v2), some (.long a3.1), none, some (.long ((a3.2 - (M.2 20 (ix v1))) &&& (M.2 20 (ix v1)))), none], [], (sI M 19 15 (1 : Int32)), 0)) = (fun (v1 : Int32) (v2 : Int32) (M : Mem) (a3 : (Int64 × Int64)) => some (.inl (102, [some (.ref 19), some (.int v1), some (.int v2), some (.long a3.1), none, some (.long ((a3.2 - (M.2 20 (ix v1))) &&& (M.2 20 (ix v1)))), none], [.long ((a3.2 - (M.2 20 (ix v1))) &&& (M.2 20 (ix v1)))], (sI M 19 15 (1 : Int32)), 0))) := by rfl
theorem m_X8_greatestOf_1 (v1 : Int32) (v2 : Int32) (M : Mem) (a3 : (Int64 × Int64)) (w6 : Int32) : Rto C_X8_greatestOf (93, [some (.ref 19), some (.int v1), some (.int v2), some (.long a3.1), none, some (.long ((a3.2 - (M.2 20 (ix v1))) &&& (M.2 20 (ix v1)))), none], [.int w6], (sI M 19 15 (1 : Int32)), 0) (102, [some (.ref 19), some (.int v1), some (.int v2), some (.long a3.1), none, some (.long ((a3.2 - (M.2 20 (ix v1))) &&& (M.2 20 (ix v1)))), none], [.long (if w6 = 0 then a3.1 else ((a3.2 - (M.2 20 (ix v1))) &&& (M.2 20 (ix v1))))], (sI M 19 15 (1 : Int32)), 0) := by
  refine Rto.trans (Rto.run 1 (congrFun (congrFun (congrFun (congrFun (congrFun b_X8_greatestOf_30 v1) v2) M) a3) w6)) ?_
  by_cases h : w6 = 0
  · refine Rto.trans (Rto.brT (q := 101) h rfl) ?_
    refine Rto.trans (Rto.run 1 (congrFun (congrFun (congrFun (congrFun b_X8_greatestOf_31 v1) v2) M) a3)) ?_
    exact Rto.eq (by first | simp only [if_pos h] | rfl)
  · refine Rto.trans (Rto.brF (q := 96) h rfl) ?_
    refine Rto.trans (Rto.run 2 (congrFun (congrFun (congrFun (congrFun b_X8_greatestOf_32 v1) v2) M) a3)) ?_
    exact Rto.eq (by first | simp only [if_neg h] | rfl)
set_option maxRecDepth 100000 in
theorem b_X8_greatestOf_33 : (fun (v1 : Int32) (v2 : Int32) (M : Mem) (a3 : (Int64 × Int64)) (w6 : Int32) => run C_X8_greatestOf 5 (102, [some (.ref 19), some (.int v1), some (.int v2), some (.long a3.1), none, some (.long ((a3.2 - (M.2 20 (ix v1))) &&& (M.2 20 (ix v1)))), none], [.long (if w6 = 0 then a3.1 else ((a3.2 - (M.2 20 (ix v1))) &&& (M.2 20 (ix v1))))], (sI M 19 15 (1 : Int32)), 0)) = (fun (v1 : Int32) (v2 : Int32) (M : Mem) (a3 : (Int64 × Int64)) (w6 : Int32) => some (.inl ((br (!decide ((lg_cmp ((a3.2 - (M.2 20 (ix v1))) &&& (M.2 20 (ix v1))) (0 : Int64)) = 0)) 107 3 (-51)), [some (.ref 19), some (.int v1), some (.int v2), some (.long (if w6 = 0 then a3.1 else ((a3.2 - (M.2 20 (ix v1))) &&& (M.2 20 (ix v1))))), none, some (.long ((a3.2 - (M.2 20 (ix v1))) &&& (M.2 20 (ix v1)))), none], [], (sI M 19 15 (1 : Int32)), 0))) := by rfl
def g_X8_greatestOf_3 (v1 : Int32) (v2 : Int32) (M : Mem) : Int64 × Int64 → Option ((Int64 × Int64) ⊕ ((Int64 × Int64) ⊕ (Res × Mem))) := fun (a3 : Int64 × Int64) => (if inb v1 30 = true then (if inb v1 30 = true then ((d_X8_many ((a3.2 - (M.2 20 (ix v1))) &&& (M.2 20 (ix v1)))).bind fun w4 => ((d_X8_many a3.1).bind fun w5 => (if w4 ≤ w5 then (if (lg_cmp ((a3.2 - (M.2 20 (ix v1))) &&& (M.2 20 (ix v1))) (0 : Int64)) = 0 then some (.inr (.inl (a3.1, ((a3.2 - (M.2 20 (ix v1))) &&& (M.2 20 (ix v1)))))) else some (.inl (a3.1, ((a3.2 - (M.2 20 (ix v1))) &&& (M.2 20 (ix v1)))))) else ((d_X8_keepsRule ((a3.2 - (M.2 20 (ix v1))) &&& (M.2 20 (ix v1))) v2 (sI M 19 15 (1 : Int32))).bind fun w6 => (if (lg_cmp ((a3.2 - (M.2 20 (ix v1))) &&& (M.2 20 (ix v1))) (0 : Int64)) = 0 then some (.inr (.inl ((if w6 = 0 then a3.1 else ((a3.2 - (M.2 20 (ix v1))) &&& (M.2 20 (ix v1)))), ((a3.2 - (M.2 20 (ix v1))) &&& (M.2 20 (ix v1)))))) else some (.inl ((if w6 = 0 then a3.1 else ((a3.2 - (M.2 20 (ix v1))) &&& (M.2 20 (ix v1)))), ((a3.2 - (M.2 20 (ix v1))) &&& (M.2 20 (ix v1)))))))))) else none) else none)
set_option maxHeartbeats 2000000 in
theorem l_X8_greatestOf_3 (v1 : Int32) (v2 : Int32) (M : Mem) : ∀ a3 : Int64 × Int64, RG C_X8_greatestOf ((fun (a3 : Int64 × Int64) => (56, [some (.ref 19), some (.int v1), some (.int v2), some (.long a3.1), none, some (.long a3.2), none], [], (sI M 19 15 (1 : Int32)), 0)) a3) (g_X8_greatestOf_3 v1 v2 M a3) (lpP (fun (a3 : Int64 × Int64) => (56, [some (.ref 19), some (.int v1), some (.int v2), some (.long a3.1), none, some (.long a3.2), none], [], (sI M 19 15 (1 : Int32)), 0)) (fun (a3 : Int64 × Int64) => (110, [some (.ref 19), some (.int v1), some (.int v2), some (.long a3.1), none, some (.long a3.2), none], [], (sI M 19 15 (1 : Int32)), 0)) id) := by
  intro a3
  unfold g_X8_greatestOf_3
  show RG C_X8_greatestOf (56, [some (.ref 19), some (.int v1), some (.int v2), some (.long a3.1), none, some (.long a3.2), none], [], (sI M 19 15 (1 : Int32)), 0) _ _
  refine RG.st 4 (congrFun (congrFun (congrFun (congrFun b_X8_greatestOf_21 v1) v2) M) a3) ?_
  refine RG.guard (fun h13 => RG.st 1 (stp_g h13 (congrFun (congrFun (congrFun (congrFun b_X8_greatestOf_22 v1) v2) M) a3)) ?_)
  refine RG.st 4 (congrFun (congrFun (congrFun (congrFun b_X8_greatestOf_23 v1) v2) M) a3) ?_
  refine RG.guard (fun h14 => RG.st 1 (stp_g h14 (congrFun (congrFun (congrFun (congrFun b_X8_greatestOf_24 v1) v2) M) a3)) ?_)
  refine RG.st 3 (congrFun (congrFun (congrFun (congrFun b_X8_greatestOf_25 v1) v2) M) a3) ?_
  refine RG.bind (fun w4 h15 => RG.st 1 (run_callS (v := some (.int w4)) rfl rfl rfl rfl (bindI h15)) ?_)
  show RG C_X8_greatestOf (79, [some (.ref 19), some (.int v1), some (.int v2), some (.long a3.1), none, some (.long ((a3.2 - (M.2 20 (ix v1))) &&& (M.2 20 (ix v1)))), none], [.int w4], (sI M 19 15 (1 : Int32)), 0) _ _
  refine RG.st 1 (congrFun (congrFun (congrFun (congrFun (congrFun b_X8_greatestOf_26 v1) v2) M) a3) w4) ?_
  refine RG.bind (fun w5 h16 => RG.st 1 (run_callS (v := some (.int w5)) rfl rfl rfl rfl (bindI h16)) ?_)
  show RG C_X8_greatestOf (83, [some (.ref 19), some (.int v1), some (.int v2), some (.long a3.1), none, some (.long ((a3.2 - (M.2 20 (ix v1))) &&& (M.2 20 (ix v1)))), none], [.int w5, .int w4], (sI M 19 15 (1 : Int32)), 0) _ _
  refine RG.st 1 (congrFun (congrFun (congrFun (congrFun (congrFun (congrFun b_X8_greatestOf_27 v1) v2) M) a3) w4) w5) ?_
  refine RG.ite (fun h17 => RG.brT (q := 101) h17 rfl ?_) (fun h17 => RG.brF (q := 86) h17 rfl ?_)
  · refine RG.st 6 (congrFun (congrFun (congrFun (congrFun b_X8_greatestOf_28 v1) v2) M) a3) ?_
    refine RG.ite (fun h18 => RG.brNF (q := 110) h18 rfl ?_) (fun h18 => RG.brNT (q := 56) h18 rfl ?_)
    · exact RG.to rfl (Rto.refl _)
    · exact RG.to rfl (Rto.refl _)
  · refine RG.st 3 (congrFun (congrFun (congrFun (congrFun b_X8_greatestOf_29 v1) v2) M) a3) ?_
    refine RG.bind (fun w6 h19 => RG.st 1 (run_callV (v := some (.int w6)) rfl rfl rfl rfl rfl (bindI h19)) ?_)
    show RG C_X8_greatestOf (93, [some (.ref 19), some (.int v1), some (.int v2), some (.long a3.1), none, some (.long ((a3.2 - (M.2 20 (ix v1))) &&& (M.2 20 (ix v1)))), none], [.int w6], (sI M 19 15 (1 : Int32)), 0) _ _
    refine RG.step (m_X8_greatestOf_1 v1 v2 M a3 w6) ?_
    refine RG.st 5 (congrFun (congrFun (congrFun (congrFun (congrFun b_X8_greatestOf_33 v1) v2) M) a3) w6) ?_
    refine RG.ite (fun h20 => RG.brNF (q := 110) h20 rfl ?_) (fun h20 => RG.brNT (q := 56) h20 rfl ?_)
    · exact RG.to rfl (Rto.refl _)
    · exact RG.to rfl (Rto.refl _)
set_option maxRecDepth 100000 in
theorem b_X8_greatestOf_34 : (fun (v1 : Int32) (v2 : Int32) (M : Mem) (a4 : (Int64 × Int64)) => run C_X8_greatestOf 2 (110, [some (.ref 19), some (.int v1), some (.int v2), some (.long a4.1), none, some (.long a4.2), none], [], (sI M 19 15 (1 : Int32)), 0)) = (fun (v1 : Int32) (v2 : Int32) (M : Mem) (a4 : (Int64 × Int64)) => some (.inr (.inl (some (.long a4.1)), (sI M 19 15 (1 : Int32)), 0))) := by rfl
set_option maxRecDepth 100000 in
theorem b_X8_greatestOf_35 : (fun (v1 : Int32) (v2 : Int32) (M : Mem) => run C_X8_greatestOf 2 (49, [some (.ref 19), some (.int v1), some (.int v2), none, none, none, none], [], (sI M 19 15 (1 : Int32)), 0)) = (fun (v1 : Int32) (v2 : Int32) (M : Mem) => some (.inr (.inl (some (.long (0 : Int64))), (sI M 19 15 (1 : Int32)), 0))) := by rfl
set_option maxRecDepth 100000 in
theorem b_X8_greatestOf_36 : (fun (v1 : Int32) (v2 : Int32) (M : Mem) => run C_X8_greatestOf 3 (20, [some (.ref 19), some (.int v1), some (.int v2), none, none, none, none], [.ref 19], M, 0)) = (fun (v1 : Int32) (v2 : Int32) (M : Mem) => some (.inl (25, [some (.ref 19), some (.int v1), some (.int v2), none, none, none, none], [.int v1, .ref 20, .ref 19], M, 0))) := by rfl
set_option maxRecDepth 100000 in
theorem b_X8_greatestOf_37 : (fun (v1 : Int32) (v2 : Int32) (M : Mem) => stp C_X8_greatestOf (25, [some (.ref 19), some (.int v1), some (.int v2), none, none, none, none], [.int v1, .ref 20, .ref 19], M, 0)) = (fun (v1 : Int32) (v2 : Int32) (M : Mem) => (if inb v1 30 = true then some (.inl (26, [some (.ref 19), some (.int v1), some (.int v2), none, none, none, none], [.long (M.2 20 (ix v1)), .ref 19], M, 0)) else none)) := by rfl
set_option maxRecDepth 100000 in
theorem b_X8_greatestOf_38 : (fun (v1 : Int32) (v2 : Int32) (M : Mem) (w7 : Int32) => run C_X8_greatestOf 2 (29, [some (.ref 19), some (.int v1), some (.int v2), none, none, none, none], [.int w7, .ref 19], M, 0)) = (fun (v1 : Int32) (v2 : Int32) (M : Mem) (w7 : Int32) => some (.inl ((br (decide (w7 ≤ (12 : Int32))) 31 3 (7)), [some (.ref 19), some (.int v1), some (.int v2), none, none, none, none], [.ref 19], M, 0))) := by rfl
set_option maxRecDepth 100000 in
theorem b_X8_greatestOf_39 : (fun (v1 : Int32) (v2 : Int32) (M : Mem) => run C_X8_greatestOf 1 (38, [some (.ref 19), some (.int v1), some (.int v2), none, none, none, none], [.ref 19], M, 0)) = (fun (v1 : Int32) (v2 : Int32) (M : Mem) => some (.inl (39, [some (.ref 19), some (.int v1), some (.int v2), none, none, none, none], [.int (0 : Int32), .ref 19], M, 0))) := by rfl
set_option maxRecDepth 100000 in
theorem b_X8_greatestOf_40 : (fun (v1 : Int32) (v2 : Int32) (M : Mem) => run C_X8_greatestOf 2 (34, [some (.ref 19), some (.int v1), some (.int v2), none, none, none, none], [.ref 19], M, 0)) = (fun (v1 : Int32) (v2 : Int32) (M : Mem) => some (.inl (39, [some (.ref 19), some (.int v1), some (.int v2), none, none, none, none], [.int (2 : Int32), .ref 19], M, 0))) := by rfl
theorem m_X8_greatestOf_2 (v1 : Int32) (v2 : Int32) (M : Mem) (w7 : Int32) : Rto C_X8_greatestOf (29, [some (.ref 19), some (.int v1), some (.int v2), none, none, none, none], [.int w7, .ref 19], M, 0) (39, [some (.ref 19), some (.int v1), some (.int v2), none, none, none, none], [.int (if w7 ≤ (12 : Int32) then (0 : Int32) else (2 : Int32)), .ref 19], M, 0) := by
  refine Rto.trans (Rto.run 2 (congrFun (congrFun (congrFun (congrFun b_X8_greatestOf_38 v1) v2) M) w7)) ?_
  by_cases h : w7 ≤ (12 : Int32)
  · refine Rto.trans (Rto.brT (q := 38) h rfl) ?_
    refine Rto.trans (Rto.run 1 (congrFun (congrFun (congrFun b_X8_greatestOf_39 v1) v2) M)) ?_
    exact Rto.eq (by first | simp only [if_pos h] | rfl)
  · refine Rto.trans (Rto.brF (q := 34) h rfl) ?_
    refine Rto.trans (Rto.run 2 (congrFun (congrFun (congrFun b_X8_greatestOf_40 v1) v2) M)) ?_
    exact Rto.eq (by first | simp only [if_neg h] | rfl)
set_option maxRecDepth 100000 in
theorem b_X8_greatestOf_41 : (fun (v1 : Int32) (v2 : Int32) (M : Mem) (w7 : Int32) => run C_X8_greatestOf 4 (39, [some (.ref 19), some (.int v1), some (.int v2), none, none, none, none], [.int (if w7 ≤ (12 : Int32) then (0 : Int32) else (2 : Int32)), .ref 19], M, 0)) = (fun (v1 : Int32) (v2 : Int32) (M : Mem) (w7 : Int32) => some (.inl ((br (decide ((if w7 ≤ (12 : Int32) then (0 : Int32) else (2 : Int32)) ≤ 0)) 46 3 (5)), [some (.ref 19), some (.int v1), some (.int v2), none, none, none, none], [], (sI M 19 15 (if w7 ≤ (12 : Int32) then (0 : Int32) else (2 : Int32))), 0))) := by rfl
set_option maxRecDepth 100000 in
theorem b_X8_greatestOf_42 : (fun (v1 : Int32) (v2 : Int32) (M : Mem) (w7 : Int32) => run C_X8_greatestOf 4 (51, [some (.ref 19), some (.int v1), some (.int v2), none, none, none, none], [], (sI M 19 15 (if w7 ≤ (12 : Int32) then (0 : Int32) else (2 : Int32))), 0)) = (fun (v1 : Int32) (v2 : Int32) (M : Mem) (w7 : Int32) => some (.inl (56, [some (.ref 19), some (.int v1), some (.int v2), some (.long (0 : Int64)), none, some (.long (0 : Int64)), none], [], (sI M 19 15 (if w7 ≤ (12 : Int32) then (0 : Int32) else (2 : Int32))), 0))) := by rfl
set_option maxRecDepth 100000 in
theorem b_X8_greatestOf_43 : (fun (v1 : Int32) (v2 : Int32) (M : Mem) (w7 : Int32) (a5 : (Int64 × Int64)) => run C_X8_greatestOf 4 (56, [some (.ref 19), some (.int v1), some (.int v2), some (.long a5.1), none, some (.long a5.2), none], [], (sI M 19 15 (if w7 ≤ (12 : Int32) then (0 : Int32) else (2 : Int32))), 0)) = (fun (v1 : Int32) (v2 : Int32) (M : Mem) (w7 : Int32) (a5 : (Int64 × Int64)) => some (.inl (63, [some (.ref 19), some (.int v1), some (.int v2), some (.long a5.1), none, some (.long a5.2), none], [.int v1, .ref 20, .long a5.2], (sI M 19 15 (if w7 ≤ (12 : Int32) then (0 : Int32) else (2 : Int32))), 0))) := by rfl
set_option maxRecDepth 100000 in
theorem b_X8_greatestOf_44 : (fun (v1 : Int32) (v2 : Int32) (M : Mem) (w7 : Int32) (a5 : (Int64 × Int64)) => stp C_X8_greatestOf (63, [some (.ref 19), some (.int v1), some (.int v2), some (.long a5.1), none, some (.long a5.2), none], [.int v1, .ref 20, .long a5.2], (sI M 19 15 (if w7 ≤ (12 : Int32) then (0 : Int32) else (2 : Int32))), 0)) = (fun (v1 : Int32) (v2 : Int32) (M : Mem) (w7 : Int32) (a5 : (Int64 × Int64)) => (if inb v1 30 = true then some (.inl (64, [some (.ref 19), some (.int v1), some (.int v2), some (.long a5.1), none, some (.long a5.2), none], [.long (M.2 20 (ix v1)), .long a5.2], (sI M 19 15 (if w7 ≤ (12 : Int32) then (0 : Int32) else (2 : Int32))), 0)) else none)) := by rfl
set_option maxRecDepth 100000 in
theorem b_X8_greatestOf_45 : (fun (v1 : Int32) (v2 : Int32) (M : Mem) (w7 : Int32) (a5 : (Int64 × Int64)) => run C_X8_greatestOf 4 (64, [some (.ref 19), some (.int v1), some (.int v2), some (.long a5.1), none, some (.long a5.2), none], [.long (M.2 20 (ix v1)), .long a5.2], (sI M 19 15 (if w7 ≤ (12 : Int32) then (0 : Int32) else (2 : Int32))), 0)) = (fun (v1 : Int32) (v2 : Int32) (M : Mem) (w7 : Int32) (a5 : (Int64 × Int64)) => some (.inl (70, [some (.ref 19), some (.int v1), some (.int v2), some (.long a5.1), none, some (.long a5.2), none], [.int v1, .ref 20, .long (a5.2 - (M.2 20 (ix v1)))], (sI M 19 15 (if w7 ≤ (12 : Int32) then (0 : Int32) else (2 : Int32))), 0))) := by rfl
set_option maxRecDepth 100000 in
theorem b_X8_greatestOf_46 : (fun (v1 : Int32) (v2 : Int32) (M : Mem) (w7 : Int32) (a5 : (Int64 × Int64)) => stp C_X8_greatestOf (70, [some (.ref 19), some (.int v1), some (.int v2), some (.long a5.1), none, some (.long a5.2), none], [.int v1, .ref 20, .long (a5.2 - (M.2 20 (ix v1)))], (sI M 19 15 (if w7 ≤ (12 : Int32) then (0 : Int32) else (2 : Int32))), 0)) = (fun (v1 : Int32) (v2 : Int32) (M : Mem) (w7 : Int32) (a5 : (Int64 × Int64)) => (if inb v1 30 = true then some (.inl (71, [some (.ref 19), some (.int v1), some (.int v2), some (.long a5.1), none, some (.long a5.2), none], [.long (M.2 20 (ix v1)), .long (a5.2 - (M.2 20 (ix v1)))], (sI M 19 15 (if w7 ≤ (12 : Int32) then (0 : Int32) else (2 : Int32))), 0)) else none)) := by rfl
set_option maxRecDepth 100000 in
theorem b_X8_greatestOf_47 : (fun (v1 : Int32) (v2 : Int32) (M : Mem) (w7 : Int32) (a5 : (Int64 × Int64)) => run C_X8_greatestOf 3 (71, [some (.ref 19), some (.int v1), some (.int v2), some (.long a5.1), none, some (.long a5.2), none], [.long (M.2 20 (ix v1)), .long (a5.2 - (M.2 20 (ix v1)))], (sI M 19 15 (if w7 ≤ (12 : Int32) then (0 : Int32) else (2 : Int32))), 0)) = (fun (v1 : Int32) (v2 : Int32) (M : Mem) (w7 : Int32) (a5 : (Int64 × Int64)) => some (.inl (76, [some (.ref 19), some (.int v1), some (.int v2), some (.long a5.1), none, some (.long ((a5.2 - (M.2 20 (ix v1))) &&& (M.2 20 (ix v1)))), none], [.long ((a5.2 - (M.2 20 (ix v1))) &&& (M.2 20 (ix v1)))], (sI M 19 15 (if w7 ≤ (12 : Int32) then (0 : Int32) else (2 : Int32))), 0))) := by rfl
set_option maxRecDepth 100000 in
theorem b_X8_greatestOf_48 : (fun (v1 : Int32) (v2 : Int32) (M : Mem) (w7 : Int32) (a5 : (Int64 × Int64)) (w8 : Int32) => run C_X8_greatestOf 1 (79, [some (.ref 19), some (.int v1), some (.int v2), some (.long a5.1), none, some (.long ((a5.2 - (M.2 20 (ix v1))) &&& (M.2 20 (ix v1)))), none], [.int w8], (sI M 19 15 (if w7 ≤ (12 : Int32) then (0 : Int32) else (2 : Int32))), 0)) = (fun (v1 : Int32) (v2 : Int32) (M : Mem) (w7 : Int32) (a5 : (Int64 × Int64)) (w8 : Int32) => some (.inl (80, [some (.ref 19), some (.int v1), some (.int v2), some (.long a5.1), none, some (.long ((a5.2 - (M.2 20 (ix v1))) &&& (M.2 20 (ix v1)))), none], [.long a5.1, .int w8], (sI M 19 15 (if w7 ≤ (12 : Int32) then (0 : Int32) else (2 : Int32))), 0))) := by rfl
set_option maxRecDepth 100000 in
theorem b_X8_greatestOf_49 : (fun (v1 : Int32) (v2 : Int32) (M : Mem) (w7 : Int32) (a5 : (Int64 × Int64)) (w8 : Int32) (w9 : Int32) => run C_X8_greatestOf 1 (83, [some (.ref 19), some (.int v1), some (.int v2), some (.long a5.1), none, some (.long ((a5.2 - (M.2 20 (ix v1))) &&& (M.2 20 (ix v1)))), none], [.int w9, .int w8], (sI M 19 15 (if w7 ≤ (12 : Int32) then (0 : Int32) else (2 : Int32))), 0)) = (fun (v1 : Int32) (v2 : Int32) (M : Mem) (w7 : Int32) (a5 : (Int64 × Int64)) (w8 : Int32) (w9 : Int32) => some (.inl ((br (decide (w8 ≤ w9)) 83 3 (18)), [some (.ref 19), some (.int v1), some (.int v2), some (.long a5.1), none, some (.long ((a5.2 - (M.2 20 (ix v1))) &&& (M.2 20 (ix v1)))), none], [], (sI M 19 15 (if w7 ≤ (12 : Int32) then (0 : Int32) else (2 : Int32))), 0))) := by rfl
set_option maxRecDepth 100000 in
theorem b_X8_greatestOf_50 : (fun (v1 : Int32) (v2 : Int32) (M : Mem) (w7 : Int32) (a5 : (Int64 × Int64)) => run C_X8_greatestOf 6 (101, [some (.ref 19), some (.int v1), some (.int v2), some (.long a5.1), none, some (.long ((a5.2 - (M.2 20 (ix v1))) &&& (M.2 20 (ix v1)))), none], [], (sI M 19 15 (if w7 ≤ (12 : Int32) then (0 : Int32) else (2 : Int32))), 0)) = (fun (v1 : Int32) (v2 : Int32) (M : Mem) (w7 : Int32) (a5 : (Int64 × Int64)) => some (.inl ((br (!decide ((lg_cmp ((a5.2 - (M.2 20 (ix v1))) &&& (M.2 20 (ix v1))) (0 : Int64)) = 0)) 107 3 (-51)), [some (.ref 19), some (.int v1), some (.int v2), some (.long a5.1), none, some (.long ((a5.2 - (M.2 20 (ix v1))) &&& (M.2 20 (ix v1)))), none], [], (sI M 19 15 (if w7 ≤ (12 : Int32) then (0 : Int32) else (2 : Int32))), 0))) := by rfl
set_option maxRecDepth 100000 in
theorem b_X8_greatestOf_51 : (fun (v1 : Int32) (v2 : Int32) (M : Mem) (w7 : Int32) (a5 : (Int64 × Int64)) => run C_X8_greatestOf 3 (86, [some (.ref 19), some (.int v1), some (.int v2), some (.long a5.1), none, some (.long ((a5.2 - (M.2 20 (ix v1))) &&& (M.2 20 (ix v1)))), none], [], (sI M 19 15 (if w7 ≤ (12 : Int32) then (0 : Int32) else (2 : Int32))), 0)) = (fun (v1 : Int32) (v2 : Int32) (M : Mem) (w7 : Int32) (a5 : (Int64 × Int64)) => some (.inl (90, [some (.ref 19), some (.int v1), some (.int v2), some (.long a5.1), none, some (.long ((a5.2 - (M.2 20 (ix v1))) &&& (M.2 20 (ix v1)))), none], [.int v2, .long ((a5.2 - (M.2 20 (ix v1))) &&& (M.2 20 (ix v1))), .ref 19], (sI M 19 15 (if w7 ≤ (12 : Int32) then (0 : Int32) else (2 : Int32))), 0))) := by rfl
set_option maxRecDepth 100000 in
theorem b_X8_greatestOf_52 : (fun (v1 : Int32) (v2 : Int32) (M : Mem) (w7 : Int32) (a5 : (Int64 × Int64)) (w10 : Int32) => run C_X8_greatestOf 1 (93, [some (.ref 19), some (.int v1), some (.int v2), some (.long a5.1), none, some (.long ((a5.2 - (M.2 20 (ix v1))) &&& (M.2 20 (ix v1)))), none], [.int w10], (sI M 19 15 (if w7 ≤ (12 : Int32) then (0 : Int32) else (2 : Int32))), 0)) = (fun (v1 : Int32) (v2 : Int32) (M : Mem) (w7 : Int32) (a5 : (Int64 × Int64)) (w10 : Int32) => some (.inl ((br (decide (w10 = 0)) 93 3 (8)), [some (.ref 19), some (.int v1), some (.int v2), some (.long a5.1), none, some (.long ((a5.2 - (M.2 20 (ix v1))) &&& (M.2 20 (ix v1)))), none], [], (sI M 19 15 (if w7 ≤ (12 : Int32) then (0 : Int32) else (2 : Int32))), 0))) := by rfl
set_option maxRecDepth 100000 in
theorem b_X8_greatestOf_53 : (fun (v1 : Int32) (v2 : Int32) (M : Mem) (w7 : Int32) (a5 : (Int64 × Int64)) => run C_X8_greatestOf 1 (101, [some (.ref 19), some (.int v1), some (.int v2), some (.long a5.1), none, some (.long ((a5.2 - (M.2 20 (ix v1))) &&& (M.2 20 (ix v1)))), none], [], (sI M 19 15 (if w7 ≤ (12 : Int32) then (0 : Int32) else (2 : Int32))), 0)) = (fun (v1 : Int32) (v2 : Int32) (M : Mem) (w7 : Int32) (a5 : (Int64 × Int64)) => some (.inl (102, [some (.ref 19), some (.int v1), some (.int v2), some (.long a5.1), none, some (.long ((a5.2 - (M.2 20 (ix v1))) &&& (M.2 20 (ix v1)))), none], [.long a5.1], (sI M 19 15 (if w7 ≤ (12 : Int32) then (0 : Int32) else (2 : Int32))), 0))) := by rfl
set_option maxRecDepth 100000 in
theorem b_X8_greatestOf_54 : (fun (v1 : Int32) (v2 : Int32) (M : Mem) (w7 : Int32) (a5 : (Int64 × Int64)) => run C_X8_greatestOf 2 (96, [some (.ref 19), some (.int v1), some (.int v2), some (.long a5.1), none, some (.long ((a5.2 - (M.2 20 (ix v1))) &&& (M.2 20 (ix v1)))), none], [], (sI M 19 15 (if w7 ≤ (12 : Int32) then (0 : Int32) else (2 : Int32))), 0)) = (fun (v1 : Int32) (v2 : Int32) (M : Mem) (w7 : Int32) (a5 : (Int64 × Int64)) => some (.inl (102, [some (.ref 19), some (.int v1), some (.int v2), some (.long a5.1), none, some (.long ((a5.2 - (M.2 20 (ix v1))) &&& (M.2 20 (ix v1)))), none], [.long ((a5.2 - (M.2 20 (ix v1))) &&& (M.2 20 (ix v1)))], (sI M 19 15 (if w7 ≤ (12 : Int32) then (0 : Int32) else (2 : Int32))), 0))) := by rfl
theorem m_X8_greatestOf_3 (v1 : Int32) (v2 : Int32) (M : Mem) (w7 : Int32) (a5 : (Int64 × Int64)) (w10 : Int32) : Rto C_X8_greatestOf (93, [some (.ref 19), some (.int v1), some (.int v2), some (.long a5.1), none, some (.long ((a5.2 - (M.2 20 (ix v1))) &&& (M.2 20 (ix v1)))), none], [.int w10], (sI M 19 15 (if w7 ≤ (12 : Int32) then (0 : Int32) else (2 : Int32))), 0) (102, [some (.ref 19), some (.int v1), some (.int v2), some (.long a5.1), none, some (.long ((a5.2 - (M.2 20 (ix v1))) &&& (M.2 20 (ix v1)))), none], [.long (if w10 = 0 then a5.1 else ((a5.2 - (M.2 20 (ix v1))) &&& (M.2 20 (ix v1))))], (sI M 19 15 (if w7 ≤ (12 : Int32) then (0 : Int32) else (2 : Int32))), 0) := by
  refine Rto.trans (Rto.run 1 (congrFun (congrFun (congrFun (congrFun (congrFun (congrFun b_X8_greatestOf_52 v1) v2) M) w7) a5) w10)) ?_
  by_cases h : w10 = 0
  · refine Rto.trans (Rto.brT (q := 101) h rfl) ?_
    refine Rto.trans (Rto.run 1 (congrFun (congrFun (congrFun (congrFun (congrFun b_X8_greatestOf_53 v1) v2) M) w7) a5)) ?_
    exact Rto.eq (by first | simp only [if_pos h] | rfl)
  · refine Rto.trans (Rto.brF (q := 96) h rfl) ?_
    refine Rto.trans (Rto.run 2 (congrFun (congrFun (congrFun (congrFun (congrFun b_X8_greatestOf_54 v1) v2) M) w7) a5)) ?_
    exact Rto.eq (by first | simp only [if_neg h] | rfl)
set_option maxRecDepth 100000 in
theorem b_X8_greatestOf_55 : (fun (v1 : Int32) (v2 : Int32) (M : Mem) (w7 : Int32) (a5 : (Int64 × Int64)) (w10 : Int32) => run C_X8_greatestOf 5 (102, [some (.ref 19), some (.int v1), some (.int v2), some (.long a5.1), none, some (.long ((a5.2 - (M.2 20 (ix v1))) &&& (M.2 20 (ix v1)))), none], [.long (if w10 = 0 then a5.1 else ((a5.2 - (M.2 20 (ix v1))) &&& (M.2 20 (ix v1))))], (sI M 19 15 (if w7 ≤ (12 : Int32) then (0 : Int32) else (2 : Int32))), 0)) = (fun (v1 : Int32) (v2 : Int32) (M : Mem) (w7 : Int32) (a5 : (Int64 × Int64)) (w10 : Int32) => some (.inl ((br (!decide ((lg_cmp ((a5.2 - (M.2 20 (ix v1))) &&& (M.2 20 (ix v1))) (0 : Int64)) = 0)) 107 3 (-51)), [some (.ref 19), some (.int v1), some (.int v2), some (.long (if w10 = 0 then a5.1 else ((a5.2 - (M.2 20 (ix v1))) &&& (M.2 20 (ix v1))))), none, some (.long ((a5.2 - (M.2 20 (ix v1))) &&& (M.2 20 (ix v1)))), none], [], (sI M 19 15 (if w7 ≤ (12 : Int32) then (0 : Int32) else (2 : Int32))), 0))) := by rfl
def g_X8_greatestOf_5 (v1 : Int32) (v2 : Int32) (M : Mem) (w7 : Int32) : Int64 × Int64 → Option ((Int64 × Int64) ⊕ ((Int64 × Int64) ⊕ (Res × Mem))) := fun (a5 : Int64 × Int64) => (if inb v1 30 = true then (if inb v1 30 = true then ((d_X8_many ((a5.2 - (M.2 20 (ix v1))) &&& (M.2 20 (ix v1)))).bind fun w8 => ((d_X8_many a5.1).bind fun w9 => (if w8 ≤ w9 then (if (lg_cmp ((a5.2 - (M.2 20 (ix v1))) &&& (M.2 20 (ix v1))) (0 : Int64)) = 0 then some (.inr (.inl (a5.1, ((a5.2 - (M.2 20 (ix v1))) &&& (M.2 20 (ix v1)))))) else some (.inl (a5.1, ((a5.2 - (M.2 20 (ix v1))) &&& (M.2 20 (ix v1)))))) else ((d_X8_keepsRule ((a5.2 - (M.2 20 (ix v1))) &&& (M.2 20 (ix v1))) v2 (sI M 19 15 (if w7 ≤ (12 : Int32) then (0 : Int32) else (2 : Int32)))).bind fun w10 => (if (lg_cmp ((a5.2 - (M.2 20 (ix v1))) &&& (M.2 20 (ix v1))) (0 : Int64)) = 0 then some (.inr (.inl ((if w10 = 0 then a5.1 else ((a5.2 - (M.2 20 (ix v1))) &&& (M.2 20 (ix v1)))), ((a5.2 - (M.2 20 (ix v1))) &&& (M.2 20 (ix v1)))))) else some (.inl ((if w10 = 0 then a5.1 else ((a5.2 - (M.2 20 (ix v1))) &&& (M.2 20 (ix v1)))), ((a5.2 - (M.2 20 (ix v1))) &&& (M.2 20 (ix v1)))))))))) else none) else none)
set_option maxHeartbeats 2000000 in
theorem l_X8_greatestOf_5 (v1 : Int32) (v2 : Int32) (M : Mem) (w7 : Int32) : ∀ a5 : Int64 × Int64, RG C_X8_greatestOf ((fun (a5 : Int64 × Int64) => (56, [some (.ref 19), some (.int v1), some (.int v2), some (.long a5.1), none, some (.long a5.2), none], [], (sI M 19 15 (if w7 ≤ (12 : Int32) then (0 : Int32) else (2 : Int32))), 0)) a5) (g_X8_greatestOf_5 v1 v2 M w7 a5) (lpP (fun (a5 : Int64 × Int64) => (56, [some (.ref 19), some (.int v1), some (.int v2), some (.long a5.1), none, some (.long a5.2), none], [], (sI M 19 15 (if w7 ≤ (12 : Int32) then (0 : Int32) else (2 : Int32))), 0)) (fun (a5 : Int64 × Int64) => (110, [some (.ref 19), some (.int v1), some (.int v2), some (.long a5.1), none, some (.long a5.2), none], [], (sI M 19 15 (if w7 ≤ (12 : Int32) then (0 : Int32) else (2 : Int32))), 0)) id) := by
  intro a5
  unfold g_X8_greatestOf_5
  show RG C_X8_greatestOf (56, [some (.ref 19), some (.int v1), some (.int v2), some (.long a5.1), none, some (.long a5.2), none], [], (sI M 19 15 (if w7 ≤ (12 : Int32) then (0 : Int32) else (2 : Int32))), 0) _ _
  refine RG.st 4 (congrFun (congrFun (congrFun (congrFun (congrFun b_X8_greatestOf_43 v1) v2) M) w7) a5) ?_
  refine RG.guard (fun h24 => RG.st 1 (stp_g h24 (congrFun (congrFun (congrFun (congrFun (congrFun b_X8_greatestOf_44 v1) v2) M) w7) a5)) ?_)
  refine RG.st 4 (congrFun (congrFun (congrFun (congrFun (congrFun b_X8_greatestOf_45 v1) v2) M) w7) a5) ?_
  refine RG.guard (fun h25 => RG.st 1 (stp_g h25 (congrFun (congrFun (congrFun (congrFun (congrFun b_X8_greatestOf_46 v1) v2) M) w7) a5)) ?_)
  refine RG.st 3 (congrFun (congrFun (congrFun (congrFun (congrFun b_X8_greatestOf_47 v1) v2) M) w7) a5) ?_
  refine RG.bind (fun w8 h26 => RG.st 1 (run_callS (v := some (.int w8)) rfl rfl rfl rfl (bindI h26)) ?_)
  show RG C_X8_greatestOf (79, [some (.ref 19), some (.int v1), some (.int v2), some (.long a5.1), none, some (.long ((a5.2 - (M.2 20 (ix v1))) &&& (M.2 20 (ix v1)))), none], [.int w8], (sI M 19 15 (if w7 ≤ (12 : Int32) then (0 : Int32) else (2 : Int32))), 0) _ _
  refine RG.st 1 (congrFun (congrFun (congrFun (congrFun (congrFun (congrFun b_X8_greatestOf_48 v1) v2) M) w7) a5) w8) ?_
  refine RG.bind (fun w9 h27 => RG.st 1 (run_callS (v := some (.int w9)) rfl rfl rfl rfl (bindI h27)) ?_)
  show RG C_X8_greatestOf (83, [some (.ref 19), some (.int v1), some (.int v2), some (.long a5.1), none, some (.long ((a5.2 - (M.2 20 (ix v1))) &&& (M.2 20 (ix v1)))), none], [.int w9, .int w8], (sI M 19 15 (if w7 ≤ (12 : Int32) then (0 : Int32) else (2 : Int32))), 0) _ _
  refine RG.st 1 (congrFun (congrFun (congrFun (congrFun (congrFun (congrFun (congrFun b_X8_greatestOf_49 v1) v2) M) w7) a5) w8) w9) ?_
  refine RG.ite (fun h28 => RG.brT (q := 101) h28 rfl ?_) (fun h28 => RG.brF (q := 86) h28 rfl ?_)
  · refine RG.st 6 (congrFun (congrFun (congrFun (congrFun (congrFun b_X8_greatestOf_50 v1) v2) M) w7) a5) ?_
    refine RG.ite (fun h29 => RG.brNF (q := 110) h29 rfl ?_) (fun h29 => RG.brNT (q := 56) h29 rfl ?_)
    · exact RG.to rfl (Rto.refl _)
    · exact RG.to rfl (Rto.refl _)
  · refine RG.st 3 (congrFun (congrFun (congrFun (congrFun (congrFun b_X8_greatestOf_51 v1) v2) M) w7) a5) ?_
    refine RG.bind (fun w10 h30 => RG.st 1 (run_callV (v := some (.int w10)) rfl rfl rfl rfl rfl (bindI h30)) ?_)
    show RG C_X8_greatestOf (93, [some (.ref 19), some (.int v1), some (.int v2), some (.long a5.1), none, some (.long ((a5.2 - (M.2 20 (ix v1))) &&& (M.2 20 (ix v1)))), none], [.int w10], (sI M 19 15 (if w7 ≤ (12 : Int32) then (0 : Int32) else (2 : Int32))), 0) _ _
    refine RG.step (m_X8_greatestOf_3 v1 v2 M w7 a5 w10) ?_
    refine RG.st 5 (congrFun (congrFun (congrFun (congrFun (congrFun (congrFun b_X8_greatestOf_55 v1) v2) M) w7) a5) w10) ?_
    refine RG.ite (fun h31 => RG.brNF (q := 110) h31 rfl ?_) (fun h31 => RG.brNT (q := 56) h31 rfl ?_)
    · exact RG.to rfl (Rto.refl _)
    · exact RG.to rfl (Rto.refl _)
set_option maxRecDepth 100000 in
theorem b_X8_greatestOf_56 : (fun (v1 : Int32) (v2 : Int32) (M : Mem) (w7 : Int32) (a6 : (Int64 × Int64)) => run C_X8_greatestOf 2 (110, [some (.ref 19), some (.int v1), some (.int v2), some (.long a6.1), none, some (.long a6.2), none], [], (sI M 19 15 (if w7 ≤ (12 : Int32) then (0 : Int32) else (2 : Int32))), 0)) = (fun (v1 : Int32) (v2 : Int32) (M : Mem) (w7 : Int32) (a6 : (Int64 × Int64)) => some (.inr (.inl (some (.long a6.1)), (sI M 19 15 (if w7 ≤ (12 : Int32) then (0 : Int32) else (2 : Int32))), 0))) := by rfl
set_option maxRecDepth 100000 in
theorem b_X8_greatestOf_57 : (fun (v1 : Int32) (v2 : Int32) (M : Mem) (w7 : Int32) => run C_X8_greatestOf 2 (49, [some (.ref 19), some (.int v1), some (.int v2), none, none, none, none], [], (sI M 19 15 (if w7 ≤ (12 : Int32) then (0 : Int32) else (2 : Int32))), 0)) = (fun (v1 : Int32) (v2 : Int32) (M : Mem) (w7 : Int32) => some (.inr (.inl (some (.long (0 : Int64))), (sI M 19 15 (if w7 ≤ (12 : Int32) then (0 : Int32) else (2 : Int32))), 0))) := by rfl
def d_X8_greatestOf (v1 : Int32) (v2 : Int32) (M : Mem) : Option (Res × Mem) := (if (d_X8_isSet v1 M) = 0 then (if (1 : Int32) ≤ 0 then (onIt (iter (g_X8_greatestOf_1 v1 v2 M) 20000 ((0 : Int64), (0 : Int64))) (fun (a2 : Int64 × Int64) => some (.inl (some (.long a2.1)), (sI M 19 15 (1 : Int32)))) (fun r => some r)) else some (.inl (some (.long (0 : Int64))), (sI M 19 15 (1 : Int32)))) else (if (d_X8_isRule v2) = 0 then (if (1 : Int32) ≤ 0 then (onIt (iter (g_X8_greatestOf_3 v1 v2 M) 20000 ((0 : Int64), (0 : Int64))) (fun (a4 : Int64 × Int64) => some (.inl (some (.long a4.1)), (sI M 19 15 (1 : Int32)))) (fun r => some r)) else some (.inl (some (.long (0 : Int64))), (sI M 19 15 (1 : Int32)))) else (if inb v1 30 = true then ((d_X8_many (M.2 20 (ix v1))).bind fun w7 => (if (if w7 ≤ (12 : Int32) then (0 : Int32) else (2 : Int32)) ≤ 0 then (onIt (iter (g_X8_greatestOf_5 v1 v2 M w7) 20000 ((0 : Int64), (0 : Int64))) (fun (a6 : Int64 × Int64) => some (.inl (some (.long a6.1)), (sI M 19 15 (if w7 ≤ (12 : Int32) then (0 : Int32) else (2 : Int32))))) (fun r => some r)) else some (.inl (some (.long (0 : Int64))), (sI M 19 15 (if w7 ≤ (12 : Int32) then (0 : Int32) else (2 : Int32)))))) else none)))
set_option maxHeartbeats 2000000 in
theorem r_X8_greatestOf (v1 : Int32) (v2 : Int32) (M : Mem) : RG C_X8_greatestOf (0, [some (.ref 19), some (.int v1), some (.int v2), none, none, none, none], [], M, 0) (d_X8_greatestOf v1 v2 M) (fun r => .inr r) := by
  unfold d_X8_greatestOf
  refine RG.st 5 (congrFun (congrFun (congrFun b_X8_greatestOf_0 v1) v2) M) ?_
  refine RG.ite (fun h1 => RG.brT (q := 16) h1 rfl ?_) (fun h1 => RG.brF (q := 9) h1 rfl ?_)
  · refine RG.st 6 (congrFun (congrFun (congrFun b_X8_greatestOf_1 v1) v2) M) ?_
    refine RG.ite (fun h2 => RG.brT (q := 51) h2 rfl ?_) (fun h2 => RG.brF (q := 49) h2 rfl ?_)
    · refine RG.st 4 (congrFun (congrFun (congrFun b_X8_greatestOf_2 v1) v2) M) ?_
      refine RG.loop (hd := (fun (a1 : Int64 × Int64) => (56, [some (.ref 19), some (.int v1), some (.int v2), some (.long a1.1), none, some (.long a1.2), none], [], (sI M 19 15 (1 : Int32)), 0))) (ex := (fun (a1 : Int64 × Int64) => (110, [some (.ref 19), some (.int v1), some (.int v2), some (.long a1.1), none, some (.long a1.2), none], [], (sI M 19 15 (1 : Int32)), 0))) (rt := id) (l_X8_greatestOf_1 v1 v2 M) (fun a2 => ?_) (fun r v h => by cases h; rfl)
      show RG C_X8_greatestOf (110, [some (.ref 19), some (.int v1), some (.int v2), some (.long a2.1), none, some (.long a2.2), none], [], (sI M 19 15 (1 : Int32)), 0) _ _
      exact RG.fin rfl (Rend.run 2 (congrFun (congrFun (congrFun (congrFun b_X8_greatestOf_16 v1) v2) M) a2))
    · exact RG.fin rfl (Rend.run 2 (congrFun (congrFun (congrFun b_X8_greatestOf_17 v1) v2) M))
  · refine RG.st 3 (congrFun (congrFun (congrFun b_X8_greatestOf_18 v1) v2) M) ?_
    refine RG.ite (fun h11 => RG.brNF (q := 16) h11 rfl ?_) (fun h11 => RG.brNT (q := 20) h11 rfl ?_)
    · refine RG.st 6 (congrFun (congrFun (congrFun b_X8_greatestOf_19 v1) v2) M) ?_
      refine RG.ite (fun h12 => RG.brT (q := 51) h12 rfl ?_) (fun h12 => RG.brF (q := 49) h12 rfl ?_)
      · refine RG.st 4 (congrFun (congrFun (congrFun b_X8_greatestOf_20 v1) v2) M) ?_
        refine RG.loop (hd := (fun (a3 : Int64 × Int64) => (56, [some (.ref 19), some (.int v1), some (.int v2), some (.long a3.1), none, some (.long a3.2), none], [], (sI M 19 15 (1 : Int32)), 0))) (ex := (fun (a3 : Int64 × Int64) => (110, [some (.ref 19), some (.int v1), some (.int v2), some (.long a3.1), none, some (.long a3.2), none], [], (sI M 19 15 (1 : Int32)), 0))) (rt := id) (l_X8_greatestOf_3 v1 v2 M) (fun a4 => ?_) (fun r v h => by cases h; rfl)
        show RG C_X8_greatestOf (110, [some (.ref 19), some (.int v1), some (.int v2), some (.long a4.1), none, some (.long a4.2), none], [], (sI M 19 15 (1 : Int32)), 0) _ _
        exact RG.fin rfl (Rend.run 2 (congrFun (congrFun (congrFun (congrFun b_X8_greatestOf_34 v1) v2) M) a4))
      · exact RG.fin rfl (Rend.run 2 (congrFun (congrFun (congrFun b_X8_greatestOf_35 v1) v2) M))
    · refine RG.st 3 (congrFun (congrFun (congrFun b_X8_greatestOf_36 v1) v2) M) ?_
      refine RG.guard (fun h21 => RG.st 1 (stp_g h21 (congrFun (congrFun (congrFun b_X8_greatestOf_37 v1) v2) M)) ?_)
      refine RG.bind (fun w7 h22 => RG.st 1 (run_callS (v := some (.int w7)) rfl rfl rfl rfl (bindI h22)) ?_)
      show RG C_X8_greatestOf (29, [some (.ref 19), some (.int v1), some (.int v2), none, none, none, none], [.int w7, .ref 19], M, 0) _ _
      refine RG.step (m_X8_greatestOf_2 v1 v2 M w7) ?_
      refine RG.st 4 (congrFun (congrFun (congrFun (congrFun b_X8_greatestOf_41 v1) v2) M) w7) ?_
      refine RG.ite (fun h23 => RG.brT (q := 51) h23 rfl ?_) (fun h23 => RG.brF (q := 49) h23 rfl ?_)
      · refine RG.st 4 (congrFun (congrFun (congrFun (congrFun b_X8_greatestOf_42 v1) v2) M) w7) ?_
        refine RG.loop (hd := (fun (a5 : Int64 × Int64) => (56, [some (.ref 19), some (.int v1), some (.int v2), some (.long a5.1), none, some (.long a5.2), none], [], (sI M 19 15 (if w7 ≤ (12 : Int32) then (0 : Int32) else (2 : Int32))), 0))) (ex := (fun (a5 : Int64 × Int64) => (110, [some (.ref 19), some (.int v1), some (.int v2), some (.long a5.1), none, some (.long a5.2), none], [], (sI M 19 15 (if w7 ≤ (12 : Int32) then (0 : Int32) else (2 : Int32))), 0))) (rt := id) (l_X8_greatestOf_5 v1 v2 M w7) (fun a6 => ?_) (fun r v h => by cases h; rfl)
        show RG C_X8_greatestOf (110, [some (.ref 19), some (.int v1), some (.int v2), some (.long a6.1), none, some (.long a6.2), none], [], (sI M 19 15 (if w7 ≤ (12 : Int32) then (0 : Int32) else (2 : Int32))), 0) _ _
        exact RG.fin rfl (Rend.run 2 (congrFun (congrFun (congrFun (congrFun (congrFun b_X8_greatestOf_56 v1) v2) M) w7) a6))
      · exact RG.fin rfl (Rend.run 2 (congrFun (congrFun (congrFun (congrFun b_X8_greatestOf_57 v1) v2) M) w7))
def fn_X8_greatestOf : Fn := fun av M => match av with
  | [.ref r0, .int v1, .int v2] => bif Nat.beq r0 19 then (d_X8_greatestOf v1 v2 M) else (none)
  | _ => none
theorem cfg_X8_greatestOf : CfgOK RX8 cX8_greatestOf (C_X8_greatestOf) 7 := ⟨tk_X8_greatestOf, csF_nd, flk_X8, (List.forall_mem_cons.mpr ⟨Or.inr ⟨yX8_isSet, cX8_isSet, 2, (some .boolean), none, 2, ok_X8_isSet, by decide, by decide, w_code_SumsetryModel_isSet__I_Z, w_initialized_SumsetryModel, ⟨by decide, by decide⟩, Or.inr (Or.inr ⟨rfl, rfl, show (parseMethodDescriptor yX8_isSet.desc).map (fun d => d.parameters.length + 1) = some 2 from by decide +kernel, w_methodLink_SumsetryModel_96, w_instanceMethod_SumsetryModel_isSet__I_Z, w_selects_SumsetryModel_isSet__I_Z, ⟨_, rfl, rfl⟩⟩)⟩,
    List.forall_mem_cons.mpr ⟨Or.inr ⟨yX8_many, cX8_many, 4, (some .int), none, 2, ok_X8_many, by decide, by decide, w_code_SumsetryModel_many__J_I, w_initialized_SumsetryModel, ⟨by decide, by decide⟩, Or.inl ⟨rfl, show (parseMethodDescriptor yX8_many.desc).map (fun d => d.parameters.length) = some 1 from by decide +kernel, w_methodLink_SumsetryModel_115, w_static_SumsetryModel_many__J_I⟩⟩,
    List.forall_mem_cons.mpr ⟨Or.inr ⟨yX8_isRule, cX8_isRule, 1, (some .boolean), none, 2, ok_X8_isRule, by decide, by decide, w_code_SumsetryModel_isRule__I_Z, w_initialized_SumsetryModel, ⟨by decide, by decide⟩, Or.inl ⟨rfl, show (parseMethodDescriptor yX8_isRule.desc).map (fun d => d.parameters.length) = some 1 from by decide +kernel, w_methodLink_SumsetryModel_163, w_static_SumsetryModel_isRule__I_Z⟩⟩,
    List.forall_mem_cons.mpr ⟨Or.inr ⟨yX8_keepsRule, cX8_keepsRule, 4, (some .boolean), none, 6, ok_X8_keepsRule, by decide, by decide, w_code_SumsetryModel_keepsRule__JI_Z, w_initialized_SumsetryModel, ⟨by decide, by decide⟩, Or.inr (Or.inr ⟨rfl, rfl, show (parseMethodDescriptor yX8_keepsRule.desc).map (fun d => d.parameters.length + 1) = some 3 from by decide +kernel, w_methodLink_SumsetryModel_166, w_instanceMethod_SumsetryModel_keepsRule__JI_Z, w_selects_SumsetryModel_keepsRule__JI_Z, ⟨_, rfl, rfl⟩⟩)⟩, fun _ h => absurd h List.not_mem_nil⟩⟩⟩⟩), ink_X8, lgk_X8, fun e h => absurd h List.not_mem_nil, (fun h hh => absurd hh List.not_mem_nil)⟩
theorem ok_X8_greatestOf : OkM csF yX8_greatestOf (Cond.code yX8_greatestOf cX8_greatestOf 7 (some .long)) 7 0 fn_X8_greatestOf :=
  OkM_of (own := RX8) (C := C_X8_greatestOf) (by decide +kernel) rfl (cfg_X8_greatestOf) rfl rfl rfl rfl (by
    intro av M o M' h
    unfold fn_X8_greatestOf at h
    split at h
    · rename_i r0 v1 v2
      rcases bif_cs h with ⟨hb, h⟩ | ⟨-, h⟩
      · skip
        have hr0 := hb
        obtain rfl := Nat.eq_of_beq_eq_true hr0
        exact ⟨rfl, Nat.le_of_ble_eq_true rfl, (r_X8_greatestOf v1 v2 M) (o, M') h⟩
      · cases h
    · cases h)
def t_X8_greatest : List (Nat × Instr × Nat) := [(0, .aload_n 0, 1), (1, .iload_n 1, 1), (2, .iload_n 2, 1), (3, .invokevirtual 169, 3), (6, .lreturn, 1)]
theorem tk_X8_greatest : ∀ x ∈ t_X8_greatest, decode cX8_greatest x.1 = .ok x.2 := by decide +kernel
def C_X8_greatest : Cfg := (t_X8_greatest, csF, fl_X8, [(169, 2, 6, 3, 0, fn_X8_greatestOf)], in_X8, lg_X8, [], [], none, (some .long), 0)
set_option maxRecDepth 100000 in
theorem b_X8_greatest_0 : (fun (v1 : Int32) (v2 : Int32) (M : Mem) => run C_X8_greatest 3 (0, [some (.ref 19), some (.int v1), some (.int v2)], [], M, 0)) = (fun (v1 : Int32) (v2 : Int32) (M : Mem) => some (.inl (3, [some (.ref 19), some (.int v1), some (.int v2)], [.int v2, .int v1, .ref 19], M, 0))) := by rfl
set_option maxRecDepth 100000 in
theorem b_X8_greatest_1 : (fun (v1 : Int32) (v2 : Int32) (w2 : Int64) (M1 : Mem) => run C_X8_greatest 1 (6, [some (.ref 19), some (.int v1), some (.int v2)], [.long w2], M1, 0)) = (fun (v1 : Int32) (v2 : Int32) (w2 : Int64) (M1 : Mem) => some (.inr (.inl (some (.long w2)), M1, 0))) := by rfl
def d_X8_greatest (v1 : Int32) (v2 : Int32) (M : Mem) : Option (Res × Mem) := (onL (d_X8_greatestOf v1 v2 M) (fun w2 M1 => some (.inl (some (.long w2)), M1)) (fun r => some r))
set_option maxHeartbeats 2000000 in
theorem r_X8_greatest (v1 : Int32) (v2 : Int32) (M : Mem) : RG C_X8_greatest (0, [some (.ref 19), some (.int v1), some (.int v2)], [], M, 0) (d_X8_greatest v1 v2 M) (fun r => .inr r) := by
  unfold d_X8_greatest
  refine RG.st 3 (congrFun (congrFun (congrFun b_X8_greatest_0 v1) v2) M) ?_
  refine RG.callL (fun w2 M1 h1 => RG.st 1 (run_callV (v := (some (.long w2))) rfl rfl rfl rfl rfl h1) ?_) (fun E M1 h1 => RG.fin rfl (Rend.run 1 (run_callVx rfl rfl rfl rfl rfl h1 rfl)))
  show RG C_X8_greatest (6, [some (.ref 19), some (.int v1), some (.int v2)], [.long w2], M1, 0) _ _
  exact RG.fin rfl (Rend.run 1 (congrFun (congrFun (congrFun (congrFun b_X8_greatest_1 v1) v2) w2) M1))
def fn_X8_greatest : Fn := fun av M => match av with
  | [.ref r0, .int v1, .int v2] => bif Nat.beq r0 19 then (d_X8_greatest v1 v2 M) else (none)
  | _ => none
theorem cfg_X8_greatest : CfgOK RX8 cX8_greatest (C_X8_greatest) 8 := ⟨tk_X8_greatest, csF_nd, flk_X8, (List.forall_mem_cons.mpr ⟨Or.inr ⟨yX8_greatestOf, cX8_greatestOf, 7, (some .long), none, 7, ok_X8_greatestOf, by decide, by decide, w_code_SumsetryModel_greatestOf__II_J, w_initialized_SumsetryModel, ⟨by decide, by decide⟩, Or.inr (Or.inr ⟨rfl, rfl, show (parseMethodDescriptor yX8_greatestOf.desc).map (fun d => d.parameters.length + 1) = some 3 from by decide +kernel, w_methodLink_SumsetryModel_169, w_instanceMethod_SumsetryModel_greatestOf__II_J, w_selects_SumsetryModel_greatestOf__II_J, ⟨_, rfl, rfl⟩⟩)⟩, fun _ h => absurd h List.not_mem_nil⟩), ink_X8, lgk_X8, fun e h => absurd h List.not_mem_nil, (fun h hh => absurd hh List.not_mem_nil)⟩
theorem ok_X8_greatest : OkM csF yX8_greatest (Cond.code yX8_greatest cX8_greatest 3 (some .long)) 8 0 fn_X8_greatest :=
  OkM_of (own := RX8) (C := C_X8_greatest) (by decide +kernel) rfl (cfg_X8_greatest) rfl rfl rfl rfl (by
    intro av M o M' h
    unfold fn_X8_greatest at h
    split at h
    · rename_i r0 v1 v2
      rcases bif_cs h with ⟨hb, h⟩ | ⟨-, h⟩
      · skip
        have hr0 := hb
        obtain rfl := Nat.eq_of_beq_eq_true hr0
        exact ⟨rfl, Nat.le_of_ble_eq_true rfl, (r_X8_greatest v1 v2 M) (o, M') h⟩
      · cases h
    · cases h)
def t_X8_greatestAnew : List (Nat × Instr × Nat) := [(0, .aload_n 0, 1), (1, .iload_n 1, 1), (2, .iload_n 2, 1), (3, .invokevirtual 169, 3), (6, .lreturn, 1)]
theorem tk_X8_greatestAnew : ∀ x ∈ t_X8_greatestAnew, decode cX8_greatestAnew x.1 = .ok x.2 := by decide +kernel
def C_X8_greatestAnew : Cfg := (t_X8_greatestAnew, csF, fl_X8, [(169, 2, 6, 3, 0, fn_X8_greatestOf)], in_X8, lg_X8, [], [], none, (some .long), 0)
set_option maxRecDepth 100000 in
theorem b_X8_greatestAnew_0 : (fun (v1 : Int32) (v2 : Int32) (M : Mem) => run C_X8_greatestAnew 3 (0, [some (.ref 19), some (.int v1), some (.int v2)], [], M, 0)) = (fun (v1 : Int32) (v2 : Int32) (M : Mem) => some (.inl (3, [some (.ref 19), some (.int v1), some (.int v2)], [.int v2, .int v1, .ref 19], M, 0))) := by rfl
set_option maxRecDepth 100000 in
theorem b_X8_greatestAnew_1 : (fun (v1 : Int32) (v2 : Int32) (w2 : Int64) (M1 : Mem) => run C_X8_greatestAnew 1 (6, [some (.ref 19), some (.int v1), some (.int v2)], [.long w2], M1, 0)) = (fun (v1 : Int32) (v2 : Int32) (w2 : Int64) (M1 : Mem) => some (.inr (.inl (some (.long w2)), M1, 0))) := by rfl
def d_X8_greatestAnew (v1 : Int32) (v2 : Int32) (M : Mem) : Option (Res × Mem) := (onL (d_X8_greatestOf v1 v2 M) (fun w2 M1 => some (.inl (some (.long w2)), M1)) (fun r => some r))
set_option maxHeartbeats 2000000 in
theorem r_X8_greatestAnew (v1 : Int32) (v2 : Int32) (M : Mem) : RG C_X8_greatestAnew (0, [some (.ref 19), some (.int v1), some (.int v2)], [], M, 0) (d_X8_greatestAnew v1 v2 M) (fun r => .inr r) := by
  unfold d_X8_greatestAnew
  refine RG.st 3 (congrFun (congrFun (congrFun b_X8_greatestAnew_0 v1) v2) M) ?_
  refine RG.callL (fun w2 M1 h1 => RG.st 1 (run_callV (v := (some (.long w2))) rfl rfl rfl rfl rfl h1) ?_) (fun E M1 h1 => RG.fin rfl (Rend.run 1 (run_callVx rfl rfl rfl rfl rfl h1 rfl)))
  show RG C_X8_greatestAnew (6, [some (.ref 19), some (.int v1), some (.int v2)], [.long w2], M1, 0) _ _
  exact RG.fin rfl (Rend.run 1 (congrFun (congrFun (congrFun (congrFun b_X8_greatestAnew_1 v1) v2) w2) M1))
def fn_X8_greatestAnew : Fn := fun av M => match av with
  | [.ref r0, .int v1, .int v2] => bif Nat.beq r0 19 then (d_X8_greatestAnew v1 v2 M) else (none)
  | _ => none
theorem cfg_X8_greatestAnew : CfgOK RX8 cX8_greatestAnew (C_X8_greatestAnew) 8 := ⟨tk_X8_greatestAnew, csF_nd, flk_X8, (List.forall_mem_cons.mpr ⟨Or.inr ⟨yX8_greatestOf, cX8_greatestOf, 7, (some .long), none, 7, ok_X8_greatestOf, by decide, by decide, w_code_SumsetryModel_greatestOf__II_J, w_initialized_SumsetryModel, ⟨by decide, by decide⟩, Or.inr (Or.inr ⟨rfl, rfl, show (parseMethodDescriptor yX8_greatestOf.desc).map (fun d => d.parameters.length + 1) = some 3 from by decide +kernel, w_methodLink_SumsetryModel_169, w_instanceMethod_SumsetryModel_greatestOf__II_J, w_selects_SumsetryModel_greatestOf__II_J, ⟨_, rfl, rfl⟩⟩)⟩, fun _ h => absurd h List.not_mem_nil⟩), ink_X8, lgk_X8, fun e h => absurd h List.not_mem_nil, (fun h hh => absurd hh List.not_mem_nil)⟩
theorem ok_X8_greatestAnew : OkM csF yX8_greatestAnew (Cond.code yX8_greatestAnew cX8_greatestAnew 3 (some .long)) 8 0 fn_X8_greatestAnew :=
  OkM_of (own := RX8) (C := C_X8_greatestAnew) (by decide +kernel) rfl (cfg_X8_greatestAnew) rfl rfl rfl rfl (by
    intro av M o M' h
    unfold fn_X8_greatestAnew at h
    split at h
    · rename_i r0 v1 v2
      rcases bif_cs h with ⟨hb, h⟩ | ⟨-, h⟩
      · skip
        have hr0 := hb
        obtain rfl := Nat.eq_of_beq_eq_true hr0
        exact ⟨rfl, Nat.le_of_ble_eq_true rfl, (r_X8_greatestAnew v1 v2 M) (o, M') h⟩
      · cases h
    · cases h)
