/-! methods: X8_popular, X8_energy, X8_energyAnew, X8_stabilizerOf -/
def t_X8_popular : List (Nat × Instr × Nat) := [(0, .aload_n 0, 1), (1, .aload_n 0, 1), (2, .iload_n 1, 1), (3, .invokevirtual 96, 3), (6, .ifCond .eq 11, 3), (9, .aload_n 0, 1), (10, .iload_n 2, 1), (11, .invokevirtual 96, 3), (14, .ifCond .ne 7, 3), (17, .iconst 1, 1), (18, .goto 18, 3), (21, .iload_n 3, 1), (22, .iconst 1, 1), (23, .bipush 36, 2), (25, .invokestatic 53, 3), (28, .ifCond .ne 7, 3), (31, .iconst 2, 1), (32, .goto 4, 3), (35, .iconst 0, 1), (36, .putfield 46, 3), (39, .lconst 0, 1), (40, .lstore 4, 2), (42, .iconst 0, 1), (43, .istore 6, 2), (45, .iload 6, 2), (47, .aload_n 0, 1), (48, .invokevirtual 49, 3), (51, .if_icmp .ge 52, 3), (54, .aload_n 0, 1), (55, .getfield 46, 3), (58, .ifCond .ne 45, 3), (61, .lload 4, 2), (63, .aload_n 0, 1), (64, .aload_n 0, 1), (65, .getfield 16, 3), (68, .iload_n 1, 1), (69, .laload, 1), (70, .iconst 1, 1), (71, .aload_n 0, 1), (72, .getfield 16, 3), (75, .iload_n 2, 1), (76, .laload, 1), (77, .iload 6, 2), (79, .invokevirtual 103, 3), (82, .iload_n 3, 1), (83, .if_icmp .lt 10, 3), (86, .lconst 1, 1), (87, .iload 6, 2), (89, .lshl, 1), (90, .goto 4, 3), (93, .lconst 0, 1), (94, .lor, 1), (95, .lstore 4, 2), (97, .iinc 6 1, 3), (100, .goto (-55), 3), (103, .lload 4, 2), (105, .lreturn, 1)]
theorem tk_X8_popular : ∀ x ∈ t_X8_popular, decode cX8_popular x.1 = .ok x.2 := by decide +kernel
def C_X8_popular : Cfg := (t_X8_popular, csF, fl_X8, [(49, 2, 6, 1, 0, fn_X8_size), (53, 0, 6, 3, 0, fn_X8_isIn), (96, 2, 6, 2, 0, fn_X8_isSet), (103, 2, 6, 5, 0, fn_X8_waysTo)], in_X8, lg_X8, [], [], none, (some .long), 0)
set_option maxRecDepth 100000 in
theorem b_X8_popular_0 : (fun (v1 : Int32) (v2 : Int32) (v3 : Int32) (M : Mem) => run C_X8_popular 5 (0, [some (.ref 19), some (.int v1), some (.int v2), some (.int v3), none, none, none], [], M, 0)) = (fun (v1 : Int32) (v2 : Int32) (v3 : Int32) (M : Mem) => some (.inl ((br (decide ((d_X8_isSet v1 M) = 0)) 6 3 (11)), [some (.ref 19), some (.int v1), some (.int v2), some (.int v3), none, none, none], [.ref 19], M, 0))) := by rfl
set_option maxRecDepth 100000 in
theorem b_X8_popular_1 : (fun (v1 : Int32) (v2 : Int32) (v3 : Int32) (M : Mem) => run C_X8_popular 2 (17, [some (.ref 19), some (.int v1), some (.int v2), some (.int v3), none, none, none], [.ref 19], M, 0)) = (fun (v1 : Int32) (v2 : Int32) (v3 : Int32) (M : Mem) => some (.inl (36, [some (.ref 19), some (.int v1), some (.int v2), some (.int v3), none, none, none], [.int (1 : Int32), .ref 19], M, 0))) := by rfl
set_option maxRecDepth 100000 in
theorem b_X8_popular_2 : (fun (v1 : Int32) (v2 : Int32) (v3 : Int32) (M : Mem) => run C_X8_popular 4 (9, [some (.ref 19), some (.int v1), some (.int v2), some (.int v3), none, none, none], [.ref 19], M, 0)) = (fun (v1 : Int32) (v2 : Int32) (v3 : Int32) (M : Mem) => some (.inl ((br (!decide ((d_X8_isSet v2 M) = 0)) 14 3 (7)), [some (.ref 19), some (.int v1), some (.int v2), some (.int v3), none, none, none], [.ref 19], M, 0))) := by rfl
set_option maxRecDepth 100000 in
theorem b_X8_popular_3 : (fun (v1 : Int32) (v2 : Int32) (v3 : Int32) (M : Mem) => run C_X8_popular 5 (21, [some (.ref 19), some (.int v1), some (.int v2), some (.int v3), none, none, none], [.ref 19], M, 0)) = (fun (v1 : Int32) (v2 : Int32) (v3 : Int32) (M : Mem) => some (.inl ((br (!decide ((d_X8_isIn v3 (1 : Int32) (36 : Int32)) = 0)) 28 3 (7)), [some (.ref 19), some (.int v1), some (.int v2), some (.int v3), none, none, none], [.ref 19], M, 0))) := by rfl
set_option maxRecDepth 100000 in
theorem b_X8_popular_4 : (fun (v1 : Int32) (v2 : Int32) (v3 : Int32) (M : Mem) => run C_X8_popular 1 (35, [some (.ref 19), some (.int v1), some (.int v2), some (.int v3), none, none, none], [.ref 19], M, 0)) = (fun (v1 : Int32) (v2 : Int32) (v3 : Int32) (M : Mem) => some (.inl (36, [some (.ref 19), some (.int v1), some (.int v2), some (.int v3), none, none, none], [.int (0 : Int32), .ref 19], M, 0))) := by rfl
set_option maxRecDepth 100000 in
theorem b_X8_popular_5 : (fun (v1 : Int32) (v2 : Int32) (v3 : Int32) (M : Mem) => run C_X8_popular 2 (31, [some (.ref 19), some (.int v1), some (.int v2), some (.int v3), none, none, none], [.ref 19], M, 0)) = (fun (v1 : Int32) (v2 : Int32) (v3 : Int32) (M : Mem) => some (.inl (36, [some (.ref 19), some (.int v1), some (.int v2), some (.int v3), none, none, none], [.int (2 : Int32), .ref 19], M, 0))) := by rfl
theorem m_X8_popular_0 (v1 : Int32) (v2 : Int32) (v3 : Int32) (M : Mem) : Rto C_X8_popular (21, [some (.ref 19), some (.int v1), some (.int v2), some (.int v3), none, none, none], [.ref 19], M, 0) (36, [some (.ref 19), some (.int v1), some (.int v2), some (.int v3), none, none, none], [.int (if (d_X8_isIn v3 (1 : Int32) (36 : Int32)) = 0 then (2 : Int32) else (0 : Int32)), .ref 19], M, 0) := by
  refine Rto.trans (Rto.run 5 (congrFun (congrFun (congrFun (congrFun b_X8_popular_3 v1) v2) v3) M)) ?_
  by_cases h : (d_X8_isIn v3 (1 : Int32) (36 : Int32)) = 0
  · refine Rto.trans (Rto.brNF (q := 31) h rfl) ?_
    refine Rto.trans (Rto.run 2 (congrFun (congrFun (congrFun (congrFun b_X8_popular_5 v1) v2) v3) M)) ?_
    exact Rto.eq (by first | (simp only [if_pos h]; done) | rfl | exact absurd rfl h | (simp; done))
  · refine Rto.trans (Rto.brNT (q := 35) h rfl) ?_
    refine Rto.trans (Rto.run 1 (congrFun (congrFun (congrFun (congrFun b_X8_popular_4 v1) v2) v3) M)) ?_
    exact Rto.eq (by first | (simp only [if_neg h]; done) | rfl | exact absurd rfl h | (simp; done))
set_option maxRecDepth 100000 in
theorem b_X8_popular_6 : (fun (v1 : Int32) (v2 : Int32) (v3 : Int32) (M : Mem) => run C_X8_popular 2 (17, [some (.ref 19), some (.int v1), some (.int v2), some (.int v3), none, none, none], [.ref 19], M, 0)) = (fun (v1 : Int32) (v2 : Int32) (v3 : Int32) (M : Mem) => some (.inl (36, [some (.ref 19), some (.int v1), some (.int v2), some (.int v3), none, none, none], [.int (1 : Int32), .ref 19], M, 0))) := by rfl
theorem m_X8_popular_1 (v1 : Int32) (v2 : Int32) (v3 : Int32) (M : Mem) : Rto C_X8_popular (9, [some (.ref 19), some (.int v1), some (.int v2), some (.int v3), none, none, none], [.ref 19], M, 0) (36, [some (.ref 19), some (.int v1), some (.int v2), some (.int v3), none, none, none], [.int (if (d_X8_isSet v2 M) = 0 then (1 : Int32) else (if (d_X8_isIn v3 (1 : Int32) (36 : Int32)) = 0 then (2 : Int32) else (0 : Int32))), .ref 19], M, 0) := by
  refine Rto.trans (Rto.run 4 (congrFun (congrFun (congrFun (congrFun b_X8_popular_2 v1) v2) v3) M)) ?_
  by_cases h : (d_X8_isSet v2 M) = 0
  · refine Rto.trans (Rto.brNF (q := 17) h rfl) ?_
    refine Rto.trans (Rto.run 2 (congrFun (congrFun (congrFun (congrFun b_X8_popular_6 v1) v2) v3) M)) ?_
    exact Rto.eq (by first | (simp only [if_pos h]; done) | rfl | exact absurd rfl h | (simp; done))
  · refine Rto.trans (Rto.brNT (q := 21) h rfl) ?_
    refine Rto.trans (m_X8_popular_0 v1 v2 v3 M) ?_
    exact Rto.eq (by first | (simp only [if_neg h]; done) | rfl | exact absurd rfl h | (simp; done))
theorem m_X8_popular_2 (v1 : Int32) (v2 : Int32) (v3 : Int32) (M : Mem) : Rto C_X8_popular (0, [some (.ref 19), some (.int v1), some (.int v2), some (.int v3), none, none, none], [], M, 0) (36, [some (.ref 19), some (.int v1), some (.int v2), some (.int v3), none, none, none], [.int (if (d_X8_isSet v1 M) = 0 then (1 : Int32) else (if (d_X8_isSet v2 M) = 0 then (1 : Int32) else (if (d_X8_isIn v3 (1 : Int32) (36 : Int32)) = 0 then (2 : Int32) else (0 : Int32)))), .ref 19], M, 0) := by
  refine Rto.trans (Rto.run 5 (congrFun (congrFun (congrFun (congrFun b_X8_popular_0 v1) v2) v3) M)) ?_
  by_cases h : (d_X8_isSet v1 M) = 0
  · refine Rto.trans (Rto.brT (q := 17) h rfl) ?_
    refine Rto.trans (Rto.run 2 (congrFun (congrFun (congrFun (congrFun b_X8_popular_1 v1) v2) v3) M)) ?_
    exact Rto.eq (by first | (simp only [if_pos h]; done) | rfl | exact absurd rfl h | (simp; done))
  · refine Rto.trans (Rto.brF (q := 9) h rfl) ?_
    refine Rto.trans (m_X8_popular_1 v1 v2 v3 M) ?_
    exact Rto.eq (by first | (simp only [if_neg h]; done) | rfl | exact absurd rfl h | (simp; done))
set_option maxRecDepth 100000 in
theorem b_X8_popular_7 : (fun (v1 : Int32) (v2 : Int32) (v3 : Int32) (M : Mem) => run C_X8_popular 5 (36, [some (.ref 19), some (.int v1), some (.int v2), some (.int v3), none, none, none], [.int (if (d_X8_isSet v1 M) = 0 then (1 : Int32) else (if (d_X8_isSet v2 M) = 0 then (1 : Int32) else (if (d_X8_isIn v3 (1 : Int32) (36 : Int32)) = 0 then (2 : Int32) else (0 : Int32)))), .ref 19], M, 0)) = (fun (v1 : Int32) (v2 : Int32) (v3 : Int32) (M : Mem) => some (.inl (45, [some (.ref 19), some (.int v1), some (.int v2), some (.int v3), some (.long (0 : Int64)), none, some (.int (0 : Int32))], [], (sI M 19 15 (if (d_X8_isSet v1 M) = 0 then (1 : Int32) else (if (d_X8_isSet v2 M) = 0 then (1 : Int32) else (if (d_X8_isIn v3 (1 : Int32) (36 : Int32)) = 0 then (2 : Int32) else (0 : Int32))))), 0))) := by rfl
set_option maxRecDepth 100000 in
theorem b_X8_popular_8 : (fun (v1 : Int32) (v2 : Int32) (v3 : Int32) (M : Mem) (a1 : (Int64 × Int32)) => run C_X8_popular 4 (45, [some (.ref 19), some (.int v1), some (.int v2), some (.int v3), some (.long a1.1), none, some (.int a1.2)], [], (sI M 19 15 (if (d_X8_isSet v1 M) = 0 then (1 : Int32) else (if (d_X8_isSet v2 M) = 0 then (1 : Int32) else (if (d_X8_isIn v3 (1 : Int32) (36 : Int32)) = 0 then (2 : Int32) else (0 : Int32))))), 0)) = (fun (v1 : Int32) (v2 : Int32) (v3 : Int32) (M : Mem) (a1 : (Int64 × Int32)) => some (.inl ((br (!decide (a1.2 < (d_X8_size (sI M 19 15 (if (d_X8_isSet v1 M) = 0 then (1 : Int32) else (if (d_X8_isSet v2 M) = 0 then (1 : Int32) else (if (d_X8_isIn v3 (1 : Int32) (36 : Int32)) = 0 then (2 : Int32) else (0 : Int32)))))))) 51 3 (52)), [some (.ref 19), some (.int v1), some (.int v2), some (.int v3), some (.long a1.1), none, some (.int a1.2)], [], (sI M 19 15 (if (d_X8_isSet v1 M) = 0 then (1 : Int32) else (if (d_X8_isSet v2 M) = 0 then (1 : Int32) else (if (d_X8_isIn v3 (1 : Int32) (36 : Int32)) = 0 then (2 : Int32) else (0 : Int32))))), 0))) := by rfl
set_option maxRecDepth 100000 in
theorem b_X8_popular_9 : (fun (v1 : Int32) (v2 : Int32) (v3 : Int32) (M : Mem) (a1 : (Int64 × Int32)) => run C_X8_popular 3 (54, [some (.ref 19), some (.int v1), some (.int v2), some (.int v3), some (.long a1.1), none, some (.int a1.2)], [], (sI M 19 15 (if (d_X8_isSet v1 M) = 0 then (1 : Int32) else (if (d_X8_isSet v2 M) = 0 then (1 : Int32) else (if (d_X8_isIn v3 (1 : Int32) (36 : Int32)) = 0 then (2 : Int32) else (0 : Int32))))), 0)) = (fun (v1 : Int32) (v2 : Int32) (v3 : Int32) (M : Mem) (a1 : (Int64 × Int32)) => some (.inl ((br (!decide ((if (d_X8_isSet v1 M) = 0 then (1 : Int32) else (if (d_X8_isSet v2 M) = 0 then (1 : Int32) else (if (d_X8_isIn v3 (1 : Int32) (36 : Int32)) = 0 then (2 : Int32) else (0 : Int32)))) = 0)) 58 3 (45)), [some (.ref 19), some (.int v1), some (.int v2), some (.int v3), some (.long a1.1), none, some (.int a1.2)], [], (sI M 19 15 (if (d_X8_isSet v1 M) = 0 then (1 : Int32) else (if (d_X8_isSet v2 M) = 0 then (1 : Int32) else (if (d_X8_isIn v3 (1 : Int32) (36 : Int32)) = 0 then (2 : Int32) else (0 : Int32))))), 0))) := by rfl
set_option maxRecDepth 100000 in
theorem b_X8_popular_10 : (fun (v1 : Int32) (v2 : Int32) (v3 : Int32) (M : Mem) (a1 : (Int64 × Int32)) => run C_X8_popular 5 (61, [some (.ref 19), some (.int v1), some (.int v2), some (.int v3), some (.long a1.1), none, some (.int a1.2)], [], (sI M 19 15 (if (d_X8_isSet v1 M) = 0 then (1 : Int32) else (if (d_X8_isSet v2 M) = 0 then (1 : Int32) else (if (d_X8_isIn v3 (1 : Int32) (36 : Int32)) = 0 then (2 : Int32) else (0 : Int32))))), 0)) = (fun (v1 : Int32) (v2 : Int32) (v3 : Int32) (M : Mem) (a1 : (Int64 × Int32)) => some (.inl (69, [some (.ref 19), some (.int v1), some (.int v2), some (.int v3), some (.long a1.1), none, some (.int a1.2)], [.int v1, .ref 20, .ref 19, .long a1.1], (sI M 19 15 (if (d_X8_isSet v1 M) = 0 then (1 : Int32) else (if (d_X8_isSet v2 M) = 0 then (1 : Int32) else (if (d_X8_isIn v3 (1 : Int32) (36 : Int32)) = 0 then (2 : Int32) else (0 : Int32))))), 0))) := by rfl
set_option maxRecDepth 100000 in
theorem b_X8_popular_11 : (fun (v1 : Int32) (v2 : Int32) (v3 : Int32) (M : Mem) (a1 : (Int64 × Int32)) => stp C_X8_popular (69, [some (.ref 19), some (.int v1), some (.int v2), some (.int v3), some (.long a1.1), none, some (.int a1.2)], [.int v1, .ref 20, .ref 19, .long a1.1], (sI M 19 15 (if (d_X8_isSet v1 M) = 0 then (1 : Int32) else (if (d_X8_isSet v2 M) = 0 then (1 : Int32) else (if (d_X8_isIn v3 (1 : Int32) (36 : Int32)) = 0 then (2 : Int32) else (0 : Int32))))), 0)) = (fun (v1 : Int32) (v2 : Int32) (v3 : Int32) (M : Mem) (a1 : (Int64 × Int32)) => (if inb v1 30 = true then some (.inl (70, [some (.ref 19), some (.int v1), some (.int v2), some (.int v3), some (.long a1.1), none, some (.int a1.2)], [.long (M.2 20 (ix v1)), .ref 19, .long a1.1], (sI M 19 15 (if (d_X8_isSet v1 M) = 0 then (1 : Int32) else (if (d_X8_isSet v2 M) = 0 then (1 : Int32) else (if (d_X8_isIn v3 (1 : Int32) (36 : Int32)) = 0 then (2 : Int32) else (0 : Int32))))), 0)) else none)) := by rfl
set_option maxRecDepth 100000 in
theorem b_X8_popular_12 : (fun (v1 : Int32) (v2 : Int32) (v3 : Int32) (M : Mem) (a1 : (Int64 × Int32)) => run C_X8_popular 4 (70, [some (.ref 19), some (.int v1), some (.int v2), some (.int v3), some (.long a1.1), none, some (.int a1.2)], [.long (M.2 20 (ix v1)), .ref 19, .long a1.1], (sI M 19 15 (if (d_X8_isSet v1 M) = 0 then (1 : Int32) else (if (d_X8_isSet v2 M) = 0 then (1 : Int32) else (if (d_X8_isIn v3 (1 : Int32) (36 : Int32)) = 0 then (2 : Int32) else (0 : Int32))))), 0)) = (fun (v1 : Int32) (v2 : Int32) (v3 : Int32) (M : Mem) (a1 : (Int64 × Int32)) => some (.inl (76, [some (.ref 19), some (.int v1), some (.int v2), some (.int v3), some (.long a1.1), none, some (.int a1.2)], [.int v2, .ref 20, .int (1 : Int32), .long (M.2 20 (ix v1)), .ref 19, .long a1.1], (sI M 19 15 (if (d_X8_isSet v1 M) = 0 then (1 : Int32) else (if (d_X8_isSet v2 M) = 0 then (1 : Int32) else (if (d_X8_isIn v3 (1 : Int32) (36 : Int32)) = 0 then (2 : Int32) else (0 : Int32))))), 0))) := by rfl
set_option maxRecDepth 100000 in
theorem b_X8_popular_13 : (fun (v1 : Int32) (v2 : Int32) (v3 : Int32) (M : Mem) (a1 : (Int64 × Int32)) => stp C_X8_popular (76, [some (.ref 19), some (.int v1), some (.int v2), some (.int v3), some (.long a1.1), none, some (.int a1.2)], [.int v2, .ref 20, .int (1 : Int32), .long (M.2 20 (ix v1)), .ref 19, .long a1.1], (sI M 19 15 (if (d_X8_isSet v1 M) = 0 then (1 : Int32) else (if (d_X8_isSet v2 M) = 0 then (1 : Int32) else (if (d_X8_isIn v3 (1 : Int32) (36 : Int32)) = 0 then (2 : Int32) else (0 : Int32))))), 0)) = (fun (v1 : Int32) (v2 : Int32) (v3 : Int32) (M : Mem) (a1 : (Int64 × Int32)) => (if inb v2 30 = true then some (.inl (77, [some (.ref 19), some (.int v1), some (.int v2), some (.int v3), some (.long a1.1), none, some (.int a1.2)], [.long (M.2 20 (ix v2)), .int (1 : Int32), .long (M.2 20 (ix v1)), .ref 19, .long a1.1], (sI M 19 15 (if (d_X8_isSet v1 M) = 0 then (1 : Int32) else (if (d_X8_isSet v2 M) = 0 then (1 : Int32) else (if (d_X8_isIn v3 (1 : Int32) (36 : Int32)) = 0 then (2 : Int32) else (0 : Int32))))), 0)) else none)) := by rfl
set_option maxRecDepth 100000 in
theorem b_X8_popular_14 : (fun (v1 : Int32) (v2 : Int32) (v3 : Int32) (M : Mem) (a1 : (Int64 × Int32)) => run C_X8_popular 1 (77, [some (.ref 19), some (.int v1), some (.int v2), some (.int v3), some (.long a1.1), none, some (.int a1.2)], [.long (M.2 20 (ix v2)), .int (1 : Int32), .long (M.2 20 (ix v1)), .ref 19, .long a1.1], (sI M 19 15 (if (d_X8_isSet v1 M) = 0 then (1 : Int32) else (if (d_X8_isSet v2 M) = 0 then (1 : Int32) else (if (d_X8_isIn v3 (1 : Int32) (36 : Int32)) = 0 then (2 : Int32) else (0 : Int32))))), 0)) = (fun (v1 : Int32) (v2 : Int32) (v3 : Int32) (M : Mem) (a1 : (Int64 × Int32)) => some (.inl (79, [some (.ref 19), some (.int v1), some (.int v2), some (.int v3), some (.long a1.1), none, some (.int a1.2)], [.int a1.2, .long (M.2 20 (ix v2)), .int (1 : Int32), .long (M.2 20 (ix v1)), .ref 19, .long a1.1], (sI M 19 15 (if (d_X8_isSet v1 M) = 0 then (1 : Int32) else (if (d_X8_isSet v2 M) = 0 then (1 : Int32) else (if (d_X8_isIn v3 (1 : Int32) (36 : Int32)) = 0 then (2 : Int32) else (0 : Int32))))), 0))) := by rfl
set_option maxRecDepth 100000 in
theorem b_X8_popular_15 : (fun (v1 : Int32) (v2 : Int32) (v3 : Int32) (M : Mem) (a1 : (Int64 × Int32)) (w1 : Int32) => run C_X8_popular 2 (82, [some (.ref 19), some (.int v1), some (.int v2), some (.int v3), some (.long a1.1), none, some (.int a1.2)], [.int w1, .long a1.1], (sI M 19 15 (if (d_X8_isSet v1 M) = 0 then (1 : Int32) else (if (d_X8_isSet v2 M) = 0 then (1 : Int32) else (if (d_X8_isIn v3 (1 : Int32) (36 : Int32)) = 0 then (2 : Int32) else (0 : Int32))))), 0)) = (fun (v1 : Int32) (v2 : Int32) (v3 : Int32) (M : Mem) (a1 : (Int64 × Int32)) (w1 : Int32) => some (.inl ((br (decide (w1 < v3)) 83 3 (10)), [some (.ref 19), some (.int v1), some (.int v2), some (.int v3), some (.long a1.1), none, some (.int a1.2)], [.long a1.1], (sI M 19 15 (if (d_X8_isSet v1 M) = 0 then (1 : Int32) else (if (d_X8_isSet v2 M) = 0 then (1 : Int32) else (if (d_X8_isIn v3 (1 : Int32) (36 : Int32)) = 0 then (2 : Int32) else (0 : Int32))))), 0))) := by rfl
set_option maxRecDepth 100000 in
theorem b_X8_popular_16 : (fun (v1 : Int32) (v2 : Int32) (v3 : Int32) (M : Mem) (a1 : (Int64 × Int32)) => run C_X8_popular 1 (93, [some (.ref 19), some (.int v1), some (.int v2), some (.int v3), some (.long a1.1), none, some (.int a1.2)], [.long a1.1], (sI M 19 15 (if (d_X8_isSet v1 M) = 0 then (1 : Int32) else (if (d_X8_isSet v2 M) = 0 then (1 : Int32) else (if (d_X8_isIn v3 (1 : Int32) (36 : Int32)) = 0 then (2 : Int32) else (0 : Int32))))), 0)) = (fun (v1 : Int32) (v2 : Int32) (v3 : Int32) (M : Mem) (a1 : (Int64 × Int32)) => some (.inl (94, [some (.ref 19), some (.int v1), some (.int v2), some (.int v3), some (.long a1.1), none, some (.int a1.2)], [.long (0 : Int64), .long a1.1], (sI M 19 15 (if (d_X8_isSet v1 M) = 0 then (1 : Int32) else (if (d_X8_isSet v2 M) = 0 then (1 : Int32) else (if (d_X8_isIn v3 (1 : Int32) (36 : Int32)) = 0 then (2 : Int32) else (0 : Int32))))), 0))) := by rfl
set_option maxRecDepth 100000 in
theorem b_X8_popular_17 : (fun (v1 : Int32) (v2 : Int32) (v3 : Int32) (M : Mem) (a1 : (Int64 × Int32)) => run C_X8_popular 4 (86, [some (.ref 19), some (.int v1), some (.int v2), some (.int v3), some (.long a1.1), none, some (.int a1.2)], [.long a1.1], (sI M 19 15 (if (d_X8_isSet v1 M) = 0 then (1 : Int32) else (if (d_X8_isSet v2 M) = 0 then (1 : Int32) else (if (d_X8_isIn v3 (1 : Int32) (36 : Int32)) = 0 then (2 : Int32) else (0 : Int32))))), 0)) = (fun (v1 : Int32) (v2 : Int32) (v3 : Int32) (M : Mem) (a1 : (Int64 × Int32)) => some (.inl (94, [some (.ref 19), some (.int v1), some (.int v2), some (.int v3), some (.long a1.1), none, some (.int a1.2)], [.long (jshl (1 : Int64) a1.2), .long a1.1], (sI M 19 15 (if (d_X8_isSet v1 M) = 0 then (1 : Int32) else (if (d_X8_isSet v2 M) = 0 then (1 : Int32) else (if (d_X8_isIn v3 (1 : Int32) (36 : Int32)) = 0 then (2 : Int32) else (0 : Int32))))), 0))) := by rfl
theorem m_X8_popular_3 (v1 : Int32) (v2 : Int32) (v3 : Int32) (M : Mem) (a1 : (Int64 × Int32)) (w1 : Int32) : Rto C_X8_popular (82, [some (.ref 19), some (.int v1), some (.int v2), some (.int v3), some (.long a1.1), none, some (.int a1.2)], [.int w1, .long a1.1], (sI M 19 15 (if (d_X8_isSet v1 M) = 0 then (1 : Int32) else (if (d_X8_isSet v2 M) = 0 then (1 : Int32) else (if (d_X8_isIn v3 (1 : Int32) (36 : Int32)) = 0 then (2 : Int32) else (0 : Int32))))), 0) (94, [some (.ref 19), some (.int v1), some (.int v2), some (.int v3), some (.long a1.1), none, some (.int a1.2)], [.long (if w1 < v3 then (0 : Int64) else (jshl (1 : Int64) a1.2)), .long a1.1], (sI M 19 15 (if (d_X8_isSet v1 M) = 0 then (1 : Int32) else (if (d_X8_isSet v2 M) = 0 then (1 : Int32) else (if (d_X8_isIn v3 (1 : Int32) (36 : Int32)) = 0 then (2 : Int32) else (0 : Int32))))), 0) := by
  refine Rto.trans (Rto.run 2 (congrFun (congrFun (congrFun (congrFun (congrFun (congrFun b_X8_popular_15 v1) v2) v3) M) a1) w1)) ?_
  by_cases h : w1 < v3
  · refine Rto.trans (Rto.brT (q := 93) h rfl) ?_
    refine Rto.trans (Rto.run 1 (congrFun (congrFun (congrFun (congrFun (congrFun b_X8_popular_16 v1) v2) v3) M) a1)) ?_
    exact Rto.eq (by first | (simp only [if_pos h]; done) | rfl | exact absurd rfl h | (simp; done))
  · refine Rto.trans (Rto.brF (q := 86) h rfl) ?_
    refine Rto.trans (Rto.run 4 (congrFun (congrFun (congrFun (congrFun (congrFun b_X8_popular_17 v1) v2) v3) M) a1)) ?_
    exact Rto.eq (by first | (simp only [if_neg h]; done) | rfl | exact absurd rfl h | (simp; done))
set_option maxRecDepth 100000 in
theorem b_X8_popular_18 : (fun (v1 : Int32) (v2 : Int32) (v3 : Int32) (M : Mem) (a1 : (Int64 × Int32)) (w1 : Int32) => run C_X8_popular 4 (94, [some (.ref 19), some (.int v1), some (.int v2), some (.int v3), some (.long a1.1), none, some (.int a1.2)], [.long (if w1 < v3 then (0 : Int64) else (jshl (1 : Int64) a1.2)), .long a1.1], (sI M 19 15 (if (d_X8_isSet v1 M) = 0 then (1 : Int32) else (if (d_X8_isSet v2 M) = 0 then (1 : Int32) else (if (d_X8_isIn v3 (1 : Int32) (36 : Int32)) = 0 then (2 : Int32) else (0 : Int32))))), 0)) = (fun (v1 : Int32) (v2 : Int32) (v3 : Int32) (M : Mem) (a1 : (Int64 × Int32)) (w1 : Int32) => some (.inl (45, [some (.ref 19), some (.int v1), some (.int v2), some (.int v3), some (.long (a1.1 ||| (if w1 < v3 then (0 : Int64) else (jshl (1 : Int64) a1.2)))), none, some (.int (a1.2 + (1 : Int32)))], [], (sI M 19 15 (if (d_X8_isSet v1 M) = 0 then (1 : Int32) else (if (d_X8_isSet v2 M) = 0 then (1 : Int32) else (if (d_X8_isIn v3 (1 : Int32) (36 : Int32)) = 0 then (2 : Int32) else (0 : Int32))))), 0))) := by rfl
def g_X8_popular_1 (v1 : Int32) (v2 : Int32) (v3 : Int32) (M : Mem) : Int64 × Int32 → Option ((Int64 × Int32) ⊕ ((Int64 × Int32) ⊕ (Res × Mem))) := fun (a1 : Int64 × Int32) => (if a1.2 < (d_X8_size (sI M 19 15 (if (d_X8_isSet v1 M) = 0 then (1 : Int32) else (if (d_X8_isSet v2 M) = 0 then (1 : Int32) else (if (d_X8_isIn v3 (1 : Int32) (36 : Int32)) = 0 then (2 : Int32) else (0 : Int32)))))) then (if (if (d_X8_isSet v1 M) = 0 then (1 : Int32) else (if (d_X8_isSet v2 M) = 0 then (1 : Int32) else (if (d_X8_isIn v3 (1 : Int32) (36 : Int32)) = 0 then (2 : Int32) else (0 : Int32)))) = 0 then (if inb v1 30 = true then (if inb v2 30 = true then ((d_X8_waysTo (M.2 20 (ix v1)) (1 : Int32) (M.2 20 (ix v2)) a1.2 (sI M 19 15 (if (d_X8_isSet v1 M) = 0 then (1 : Int32) else (if (d_X8_isSet v2 M) = 0 then (1 : Int32) else (if (d_X8_isIn v3 (1 : Int32) (36 : Int32)) = 0 then (2 : Int32) else (0 : Int32)))))).bind fun w1 => some (.inl ((a1.1 ||| (if w1 < v3 then (0 : Int64) else (jshl (1 : Int64) a1.2))), (a1.2 + (1 : Int32))))) else none) else none) else some (.inr (.inl (a1.1, a1.2)))) else some (.inr (.inl (a1.1, a1.2))))
set_option maxHeartbeats 2000000 in
theorem l_X8_popular_1 (v1 : Int32) (v2 : Int32) (v3 : Int32) (M : Mem) : ∀ a1 : Int64 × Int32, RG C_X8_popular ((fun (a1 : Int64 × Int32) => (45, [some (.ref 19), some (.int v1), some (.int v2), some (.int v3), some (.long a1.1), none, some (.int a1.2)], [], (sI M 19 15 (if (d_X8_isSet v1 M) = 0 then (1 : Int32) else (if (d_X8_isSet v2 M) = 0 then (1 : Int32) else (if (d_X8_isIn v3 (1 : Int32) (36 : Int32)) = 0 then (2 : Int32) else (0 : Int32))))), 0)) a1) (g_X8_popular_1 v1 v2 v3 M a1) (lpP (fun (a1 : Int64 × Int32) => (45, [some (.ref 19), some (.int v1), some (.int v2), some (.int v3), some (.long a1.1), none, some (.int a1.2)], [], (sI M 19 15 (if (d_X8_isSet v1 M) = 0 then (1 : Int32) else (if (d_X8_isSet v2 M) = 0 then (1 : Int32) else (if (d_X8_isIn v3 (1 : Int32) (36 : Int32)) = 0 then (2 : Int32) else (0 : Int32))))), 0)) (fun (a1 : Int64 × Int32) => (103, [some (.ref 19), some (.int v1), some (.int v2), some (.int v3), some (.long a1.1), none, some (.int a1.2)], [], (sI M 19 15 (if (d_X8_isSet v1 M) = 0 then (1 : Int32) else (if (d_X8_isSet v2 M) = 0 then (1 : Int32) else (if (d_X8_isIn v3 (1 : Int32) (36 : Int32)) = 0 then (2 : Int32) else (0 : Int32))))), 0)) id) := by
  intro a1
  unfold g_X8_popular_1
  show RG C_X8_popular (45, [some (.ref 19), some (.int v1), some (.int v2), some (.int v3), some (.long a1.1), none, some (.int a1.2)], [], (sI M 19 15 (if (d_X8_isSet v1 M) = 0 then (1 : Int32) else (if (d_X8_isSet v2 M) = 0 then (1 : Int32) else (if (d_X8_isIn v3 (1 : Int32) (36 : Int32)) = 0 then (2 : Int32) else (0 : Int32))))), 0) _ _
  refine RG.st 4 (congrFun (congrFun (congrFun (congrFun (congrFun b_X8_popular_8 v1) v2) v3) M) a1) ?_
  refine RG.ite (fun h1 => RG.brNF (q := 54) h1 rfl ?_) (fun h1 => RG.brNT (q := 103) h1 rfl ?_)
  · refine RG.st 3 (congrFun (congrFun (congrFun (congrFun (congrFun b_X8_popular_9 v1) v2) v3) M) a1) ?_
    refine RG.ite (fun h2 => RG.brNF (q := 61) h2 rfl ?_) (fun h2 => RG.brNT (q := 103) h2 rfl ?_)
    · refine RG.st 5 (congrFun (congrFun (congrFun (congrFun (congrFun b_X8_popular_10 v1) v2) v3) M) a1) ?_
      refine RG.guard (fun h3 => RG.st 1 (stp_g h3 (congrFun (congrFun (congrFun (congrFun (congrFun b_X8_popular_11 v1) v2) v3) M) a1)) ?_)
      refine RG.st 4 (congrFun (congrFun (congrFun (congrFun (congrFun b_X8_popular_12 v1) v2) v3) M) a1) ?_
      refine RG.guard (fun h4 => RG.st 1 (stp_g h4 (congrFun (congrFun (congrFun (congrFun (congrFun b_X8_popular_13 v1) v2) v3) M) a1)) ?_)
      refine RG.st 1 (congrFun (congrFun (congrFun (congrFun (congrFun b_X8_popular_14 v1) v2) v3) M) a1) ?_
      refine RG.bind (fun w1 h5 => RG.st 1 (run_callV (v := some (.int w1)) rfl rfl rfl rfl rfl (bindI h5)) ?_)
      show RG C_X8_popular (82, [some (.ref 19), some (.int v1), some (.int v2), some (.int v3), some (.long a1.1), none, some (.int a1.2)], [.int w1, .long a1.1], (sI M 19 15 (if (d_X8_isSet v1 M) = 0 then (1 : Int32) else (if (d_X8_isSet v2 M) = 0 then (1 : Int32) else (if (d_X8_isIn v3 (1 : Int32) (36 : Int32)) = 0 then (2 : Int32) else (0 : Int32))))), 0) _ _
      refine RG.step (m_X8_popular_3 v1 v2 v3 M a1 w1) ?_
      refine RG.st 4 (congrFun (congrFun (congrFun (congrFun (congrFun (congrFun b_X8_popular_18 v1) v2) v3) M) a1) w1) ?_
      exact RG.to rfl (Rto.refl _)
    · exact RG.to rfl (Rto.refl _)
  · exact RG.to rfl (Rto.refl _)
set_option maxRecDepth 100000 in
theorem b_X8_popular_19 : (fun (v1 : Int32) (v2 : Int32) (v3 : Int32) (M : Mem) (a2 : (Int64 × Int32)) => run C_X8_popular 2 (103, [some (.ref 19), some (.int v1), some (.int v2), some (.int v3), some (.long a2.1), none, some (.int a2.2)], [], (sI M 19 15 (if (d_X8_isSet v1 M) = 0 then (1 : Int32) else (if (d_X8_isSet v2 M) = 0 then (1 : Int32) else (if (d_X8_isIn v3 (1 : Int32) (36 : Int32)) = 0 then (2 : Int32) else (0 : Int32))))), 0)) = (fun (v1 : Int32) (v2 : Int32) (v3 : Int32) (M : Mem) (a2 : (Int64 × Int32)) => some (.inr (.inl (some (.long a2.1)), (sI M 19 15 (if (d_X8_isSet v1 M) = 0 then (1 : Int32) else (if (d_X8_isSet v2 M) = 0 then (1 : Int32) else (if (d_X8_isIn v3 (1 : Int32) (36 : Int32)) = 0 then (2 : Int32) else (0 : Int32))))), 0))) := by rfl
def d_X8_popular (v1 : Int32) (v2 : Int32) (v3 : Int32) (M : Mem) : Option (Res × Mem) := (onIt (iter (g_X8_popular_1 v1 v2 v3 M) 20000 ((0 : Int64), (0 : Int32))) (fun (a2 : Int64 × Int32) => some (.inl (some (.long a2.1)), (sI M 19 15 (if (d_X8_isSet v1 M) = 0 then (1 : Int32) else (if (d_X8_isSet v2 M) = 0 then (1 : Int32) else (if (d_X8_isIn v3 (1 : Int32) (36 : Int32)) = 0 then (2 : Int32) else (0 : Int32))))))) (fun r => some r))
set_option maxHeartbeats 2000000 in
theorem r_X8_popular (v1 : Int32) (v2 : Int32) (v3 : Int32) (M : Mem) : RG C_X8_popular (0, [some (.ref 19), some (.int v1), some (.int v2), some (.int v3), none, none, none], [], M, 0) (d_X8_popular v1 v2 v3 M) (fun r => .inr r) := by
  unfold d_X8_popular
  refine RG.step (m_X8_popular_2 v1 v2 v3 M) ?_
  refine RG.st 5 (congrFun (congrFun (congrFun (congrFun b_X8_popular_7 v1) v2) v3) M) ?_
  refine RG.loop (hd := (fun (a1 : Int64 × Int32) => (45, [some (.ref 19), some (.int v1), some (.int v2), some (.int v3), some (.long a1.1), none, some (.int a1.2)], [], (sI M 19 15 (if (d_X8_isSet v1 M) = 0 then (1 : Int32) else (if (d_X8_isSet v2 M) = 0 then (1 : Int32) else (if (d_X8_isIn v3 (1 : Int32) (36 : Int32)) = 0 then (2 : Int32) else (0 : Int32))))), 0))) (ex := (fun (a1 : Int64 × Int32) => (103, [some (.ref 19), some (.int v1), some (.int v2), some (.int v3), some (.long a1.1), none, some (.int a1.2)], [], (sI M 19 15 (if (d_X8_isSet v1 M) = 0 then (1 : Int32) else (if (d_X8_isSet v2 M) = 0 then (1 : Int32) else (if (d_X8_isIn v3 (1 : Int32) (36 : Int32)) = 0 then (2 : Int32) else (0 : Int32))))), 0))) (rt := id) (l_X8_popular_1 v1 v2 v3 M) (fun a2 => ?_) (fun r v h => by cases h; rfl)
  show RG C_X8_popular (103, [some (.ref 19), some (.int v1), some (.int v2), some (.int v3), some (.long a2.1), none, some (.int a2.2)], [], (sI M 19 15 (if (d_X8_isSet v1 M) = 0 then (1 : Int32) else (if (d_X8_isSet v2 M) = 0 then (1 : Int32) else (if (d_X8_isIn v3 (1 : Int32) (36 : Int32)) = 0 then (2 : Int32) else (0 : Int32))))), 0) _ _
  exact RG.fin rfl (Rend.run 2 (congrFun (congrFun (congrFun (congrFun (congrFun b_X8_popular_19 v1) v2) v3) M) a2))
def fn_X8_popular : Fn := fun av M => match av with
  | [.ref r0, .int v1, .int v2, .int v3] => bif Nat.beq r0 19 then (d_X8_popular v1 v2 v3 M) else (none)
  | _ => none
theorem cfg_X8_popular : CfgOK RX8 cX8_popular (C_X8_popular) 4 := ⟨tk_X8_popular, csF_nd, flk_X8, (List.forall_mem_cons.mpr ⟨Or.inr ⟨yX8_size, cX8_size, 1, (some .int), none, 1, ok_X8_size, by decide, by decide, w_code_SumsetryModel_size___I, w_initialized_SumsetryModel, ⟨by decide, by decide⟩, Or.inr (Or.inr ⟨rfl, rfl, show (parseMethodDescriptor yX8_size.desc).map (fun d => d.parameters.length + 1) = some 1 from by decide +kernel, w_methodLink_SumsetryModel_49, w_instanceMethod_SumsetryModel_size___I, w_selects_SumsetryModel_size___I, ⟨_, rfl, rfl⟩⟩)⟩,
    List.forall_mem_cons.mpr ⟨Or.inr ⟨yX8_isIn, cX8_isIn, 3, (some .boolean), none, 1, ok_X8_isIn, by decide, by decide, w_code_SumsetryModel_isIn__III_Z, w_initialized_SumsetryModel, ⟨by decide, by decide⟩, Or.inl ⟨rfl, show (parseMethodDescriptor yX8_isIn.desc).map (fun d => d.parameters.length) = some 3 from by decide +kernel, w_methodLink_SumsetryModel_53, w_static_SumsetryModel_isIn__III_Z⟩⟩,
    List.forall_mem_cons.mpr ⟨Or.inr ⟨yX8_isSet, cX8_isSet, 2, (some .boolean), none, 2, ok_X8_isSet, by decide, by decide, w_code_SumsetryModel_isSet__I_Z, w_initialized_SumsetryModel, ⟨by decide, by decide⟩, Or.inr (Or.inr ⟨rfl, rfl, show (parseMethodDescriptor yX8_isSet.desc).map (fun d => d.parameters.length + 1) = some 2 from by decide +kernel, w_methodLink_SumsetryModel_96, w_instanceMethod_SumsetryModel_isSet__I_Z, w_selects_SumsetryModel_isSet__I_Z, ⟨_, rfl, rfl⟩⟩)⟩,
    List.forall_mem_cons.mpr ⟨Or.inr ⟨yX8_waysTo, cX8_waysTo, 10, (some .int), none, 3, ok_X8_waysTo, by decide, by decide, w_code_SumsetryModel_waysTo__JIJI_I, w_initialized_SumsetryModel, ⟨by decide, by decide⟩, Or.inr (Or.inr ⟨rfl, rfl, show (parseMethodDescriptor yX8_waysTo.desc).map (fun d => d.parameters.length + 1) = some 5 from by decide +kernel, w_methodLink_SumsetryModel_103, w_instanceMethod_SumsetryModel_waysTo__JIJI_I, w_selects_SumsetryModel_waysTo__JIJI_I, ⟨_, rfl, rfl⟩⟩)⟩, fun _ h => absurd h List.not_mem_nil⟩⟩⟩⟩), ink_X8, lgk_X8, fun e h => absurd h List.not_mem_nil, (fun h hh => absurd hh List.not_mem_nil)⟩
theorem ok_X8_popular : OkM csF yX8_popular (Cond.code yX8_popular cX8_popular 7 (some .long)) 4 0 fn_X8_popular :=
  OkM_of (own := RX8) (C := C_X8_popular) (by decide +kernel) rfl (cfg_X8_popular) rfl rfl rfl rfl (by
    intro av M o M' h
    unfold fn_X8_popular at h
    split at h
    · rename_i r0 v1 v2 v3
      rcases bif_cs h with ⟨hb, h⟩ | ⟨-, h⟩
      · skip
        have hr0 := hb
        obtain rfl := Nat.eq_of_beq_eq_true hr0
        exact ⟨rfl, Nat.le_of_ble_eq_true rfl, (r_X8_popular v1 v2 v3 M) (o, M') h⟩
      · cases h
    · cases h)
def t_X8_energy : List (Nat × Instr × Nat) := [(0, .aload_n 0, 1), (1, .iload_n 1, 1), (2, .iload_n 2, 1), (3, .invokevirtual 107, 3), (6, .ifCond .ne 5, 3), (9, .iconst 0, 1), (10, .ireturn, 1), (11, .iconst 0, 1), (12, .istore_n 3, 1), (13, .iconst 0, 1), (14, .istore 4, 2), (16, .iload 4, 2), (18, .aload_n 0, 1), (19, .invokevirtual 49, 3), (22, .if_icmp .ge 38, 3), (25, .aload_n 0, 1), (26, .aload_n 0, 1), (27, .getfield 16, 3), (30, .iload_n 1, 1), (31, .laload, 1), (32, .iconst 1, 1), (33, .aload_n 0, 1), (34, .getfield 16, 3), (37, .iload_n 2, 1), (38, .laload, 1), (39, .iload 4, 2), (41, .invokevirtual 103, 3), (44, .istore 5, 2), (46, .iload_n 3, 1), (47, .iload 5, 2), (49, .iload 5, 2), (51, .imul, 1), (52, .iadd, 1), (53, .istore_n 3, 1), (54, .iinc 4 1, 3), (57, .goto (-41), 3), (60, .iload_n 3, 1), (61, .ireturn, 1)]
theorem tk_X8_energy : ∀ x ∈ t_X8_energy, decode cX8_energy x.1 = .ok x.2 := by decide +kernel
def C_X8_energy : Cfg := (t_X8_energy, csF, fl_X8, [(49, 2, 6, 1, 0, fn_X8_size), (103, 2, 6, 5, 0, fn_X8_waysTo), (107, 2, 6, 3, 0, fn_X8_areSets)], in_X8, lg_X8, [], [], none, (some .int), 0)
set_option maxRecDepth 100000 in
theorem b_X8_energy_0 : (fun (v1 : Int32) (v2 : Int32) (M : Mem) => run C_X8_energy 3 (0, [some (.ref 19), some (.int v1), some (.int v2), none, none, none], [], M, 0)) = (fun (v1 : Int32) (v2 : Int32) (M : Mem) => some (.inl (3, [some (.ref 19), some (.int v1), some (.int v2), none, none, none], [.int v2, .int v1, .ref 19], M, 0))) := by rfl
set_option maxRecDepth 100000 in
theorem b_X8_energy_1 : (fun (v1 : Int32) (v2 : Int32) (w2 : Int32) (M1 : Mem) => run C_X8_energy 1 (6, [some (.ref 19), some (.int v1), some (.int v2), none, none, none], [.int w2], M1, 0)) = (fun (v1 : Int32) (v2 : Int32) (w2 : Int32) (M1 : Mem) => some (.inl ((br (!decide (w2 = 0)) 6 3 (5)), [some (.ref 19), some (.int v1), some (.int v2), none, none, none], [], M1, 0))) := by rfl
set_option maxRecDepth 100000 in
theorem b_X8_energy_2 : (fun (v1 : Int32) (v2 : Int32) (M1 : Mem) => run C_X8_energy 2 (9, [some (.ref 19), some (.int v1), some (.int v2), none, none, none], [], M1, 0)) = (fun (v1 : Int32) (v2 : Int32) (M1 : Mem) => some (.inr (.inl (some (.int (0 : Int32))), M1, 0))) := by rfl
set_option maxRecDepth 100000 in
theorem b_X8_energy_3 : (fun (v1 : Int32) (v2 : Int32) (M1 : Mem) => run C_X8_energy 4 (11, [some (.ref 19), some (.int v1), some (.int v2), none, none, none], [], M1, 0)) = (fun (v1 : Int32) (v2 : Int32) (M1 : Mem) => some (.inl (16, [some (.ref 19), some (.int v1), some (.int v2), some (.int (0 : Int32)), some (.int (0 : Int32)), none], [], M1, 0))) := by rfl
set_option maxRecDepth 100000 in
theorem b_X8_energy_4 : (fun (v1 : Int32) (v2 : Int32) (M1 : Mem) (a1 : (Int32 × Int32)) => run C_X8_energy 4 (16, [some (.ref 19), some (.int v1), some (.int v2), some (.int a1.1), some (.int a1.2), none], [], M1, 0)) = (fun (v1 : Int32) (v2 : Int32) (M1 : Mem) (a1 : (Int32 × Int32)) => some (.inl ((br (!decide (a1.2 < (d_X8_size M1))) 22 3 (38)), [some (.ref 19), some (.int v1), some (.int v2), some (.int a1.1), some (.int a1.2), none], [], M1, 0))) := by rfl
set_option maxRecDepth 100000 in
theorem b_X8_energy_5 : (fun (v1 : Int32) (v2 : Int32) (M1 : Mem) (a1 : (Int32 × Int32)) => run C_X8_energy 4 (25, [some (.ref 19), some (.int v1), some (.int v2), some (.int a1.1), some (.int a1.2), none], [], M1, 0)) = (fun (v1 : Int32) (v2 : Int32) (M1 : Mem) (a1 : (Int32 × Int32)) => some (.inl (31, [some (.ref 19), some (.int v1), some (.int v2), some (.int a1.1), some (.int a1.2), none], [.int v1, .ref 20, .ref 19], M1, 0))) := by rfl
set_option maxRecDepth 100000 in
theorem b_X8_energy_6 : (fun (v1 : Int32) (v2 : Int32) (M1 : Mem) (a1 : (Int32 × Int32)) => stp C_X8_energy (31, [some (.ref 19), some (.int v1), some (.int v2), some (.int a1.1), some (.int a1.2), none], [.int v1, .ref 20, .ref 19], M1, 0)) = (fun (v1 : Int32) (v2 : Int32) (M1 : Mem) (a1 : (Int32 × Int32)) => (if inb v1 30 = true then some (.inl (32, [some (.ref 19), some (.int v1), some (.int v2), some (.int a1.1), some (.int a1.2), none], [.long (M1.2 20 (ix v1)), .ref 19], M1, 0)) else none)) := by rfl
set_option maxRecDepth 100000 in
theorem b_X8_energy_7 : (fun (v1 : Int32) (v2 : Int32) (M1 : Mem) (a1 : (Int32 × Int32)) => run C_X8_energy 4 (32, [some (.ref 19), some (.int v1), some (.int v2), some (.int a1.1), some (.int a1.2), none], [.long (M1.2 20 (ix v1)), .ref 19], M1, 0)) = (fun (v1 : Int32) (v2 : Int32) (M1 : Mem) (a1 : (Int32 × Int32)) => some (.inl (38, [some (.ref 19), some (.int v1), some (.int v2), some (.int a1.1), some (.int a1.2), none], [.int v2, .ref 20, .int (1 : Int32), .long (M1.2 20 (ix v1)), .ref 19], M1, 0))) := by rfl
set_option maxRecDepth 100000 in
theorem b_X8_energy_8 : (fun (v1 : Int32) (v2 : Int32) (M1 : Mem) (a1 : (Int32 × Int32)) => stp C_X8_energy (38, [some (.ref 19), some (.int v1), some (.int v2), some (.int a1.1), some (.int a1.2), none], [.int v2, .ref 20, .int (1 : Int32), .long (M1.2 20 (ix v1)), .ref 19], M1, 0)) = (fun (v1 : Int32) (v2 : Int32) (M1 : Mem) (a1 : (Int32 × Int32)) => (if inb v2 30 = true then some (.inl (39, [some (.ref 19), some (.int v1), some (.int v2), some (.int a1.1), some (.int a1.2), none], [.long (M1.2 20 (ix v2)), .int (1 : Int32), .long (M1.2 20 (ix v1)), .ref 19], M1, 0)) else none)) := by rfl
set_option maxRecDepth 100000 in
theorem b_X8_energy_9 : (fun (v1 : Int32) (v2 : Int32) (M1 : Mem) (a1 : (Int32 × Int32)) => run C_X8_energy 1 (39, [some (.ref 19), some (.int v1), some (.int v2), some (.int a1.1), some (.int a1.2), none], [.long (M1.2 20 (ix v2)), .int (1 : Int32), .long (M1.2 20 (ix v1)), .ref 19], M1, 0)) = (fun (v1 : Int32) (v2 : Int32) (M1 : Mem) (a1 : (Int32 × Int32)) => some (.inl (41, [some (.ref 19), some (.int v1), some (.int v2), some (.int a1.1), some (.int a1.2), none], [.int a1.2, .long (M1.2 20 (ix v2)), .int (1 : Int32), .long (M1.2 20 (ix v1)), .ref 19], M1, 0))) := by rfl
set_option maxRecDepth 100000 in
theorem b_X8_energy_10 : (fun (v1 : Int32) (v2 : Int32) (M1 : Mem) (a1 : (Int32 × Int32)) (w3 : Int32) => run C_X8_energy 9 (44, [some (.ref 19), some (.int v1), some (.int v2), some (.int a1.1), some (.int a1.2), none], [.int w3], M1, 0)) = (fun (v1 : Int32) (v2 : Int32) (M1 : Mem) (a1 : (Int32 × Int32)) (w3 : Int32) => some (.inl (16, [some (.ref 19), some (.int v1), some (.int v2), some (.int (a1.1 + (w3 * w3))), some (.int (a1.2 + (1 : Int32))), some (.int w3)], [], M1, 0))) := by rfl
def g_X8_energy_1 (v1 : Int32) (v2 : Int32) (M1 : Mem) : Int32 × Int32 → Option ((Int32 × Int32) ⊕ ((Int32 × Int32) ⊕ (Res × Mem))) := fun (a1 : Int32 × Int32) => (if a1.2 < (d_X8_size M1) then (if inb v1 30 = true then (if inb v2 30 = true then ((d_X8_waysTo (M1.2 20 (ix v1)) (1 : Int32) (M1.2 20 (ix v2)) a1.2 M1).bind fun w3 => some (.inl ((a1.1 + (w3 * w3)), (a1.2 + (1 : Int32))))) else none) else none) else some (.inr (.inl (a1.1, a1.2))))
set_option maxHeartbeats 2000000 in
theorem l_X8_energy_1 (v1 : Int32) (v2 : Int32) (M : Mem) (M1 : Mem) : ∀ a1 : Int32 × Int32, RG C_X8_energy ((fun (a1 : Int32 × Int32) => (16, [some (.ref 19), some (.int v1), some (.int v2), some (.int a1.1), some (.int a1.2), none], [], M1, 0)) a1) (g_X8_energy_1 v1 v2 M1 a1) (lpP (fun (a1 : Int32 × Int32) => (16, [some (.ref 19), some (.int v1), some (.int v2), some (.int a1.1), some (.int a1.2), none], [], M1, 0)) (fun (a1 : Int32 × Int32) => (60, [some (.ref 19), some (.int v1), some (.int v2), some (.int a1.1), some (.int a1.2), none], [], M1, 0)) id) := by
  intro a1
  unfold g_X8_energy_1
  show RG C_X8_energy (16, [some (.ref 19), some (.int v1), some (.int v2), some (.int a1.1), some (.int a1.2), none], [], M1, 0) _ _
  refine RG.st 4 (congrFun (congrFun (congrFun (congrFun b_X8_energy_4 v1) v2) M1) a1) ?_
  refine RG.ite (fun h3 => RG.brNF (q := 25) h3 rfl ?_) (fun h3 => RG.brNT (q := 60) h3 rfl ?_)
  · refine RG.st 4 (congrFun (congrFun (congrFun (congrFun b_X8_energy_5 v1) v2) M1) a1) ?_
    refine RG.guard (fun h4 => RG.st 1 (stp_g h4 (congrFun (congrFun (congrFun (congrFun b_X8_energy_6 v1) v2) M1) a1)) ?_)
    refine RG.st 4 (congrFun (congrFun (congrFun (congrFun b_X8_energy_7 v1) v2) M1) a1) ?_
    refine RG.guard (fun h5 => RG.st 1 (stp_g h5 (congrFun (congrFun (congrFun (congrFun b_X8_energy_8 v1) v2) M1) a1)) ?_)
    refine RG.st 1 (congrFun (congrFun (congrFun (congrFun b_X8_energy_9 v1) v2) M1) a1) ?_
    refine RG.bind (fun w3 h6 => RG.st 1 (run_callV (v := some (.int w3)) rfl rfl rfl rfl rfl (bindI h6)) ?_)
    show RG C_X8_energy (44, [some (.ref 19), some (.int v1), some (.int v2), some (.int a1.1), some (.int a1.2), none], [.int w3], M1, 0) _ _
    refine RG.st 9 (congrFun (congrFun (congrFun (congrFun (congrFun b_X8_energy_10 v1) v2) M1) a1) w3) ?_
    exact RG.to rfl (Rto.fgt [5] rfl)
  · exact RG.to rfl (Rto.refl _)
set_option maxRecDepth 100000 in
theorem b_X8_energy_11 : (fun (v1 : Int32) (v2 : Int32) (M1 : Mem) (a2 : (Int32 × Int32)) => run C_X8_energy 2 (60, [some (.ref 19), some (.int v1), some (.int v2), some (.int a2.1), some (.int a2.2), none], [], M1, 0)) = (fun (v1 : Int32) (v2 : Int32) (M1 : Mem) (a2 : (Int32 × Int32)) => some (.inr (.inl (some (.int a2.1)), M1, 0))) := by rfl
def d_X8_energy (v1 : Int32) (v2 : Int32) (M : Mem) : Option (Res × Mem) := (onI (d_X8_areSets v1 v2 M) (fun w2 M1 => (if w2 = 0 then some (.inl (some (.int (0 : Int32))), M1) else (onIt (iter (g_X8_energy_1 v1 v2 M1) 20000 ((0 : Int32), (0 : Int32))) (fun (a2 : Int32 × Int32) => some (.inl (some (.int a2.1)), M1)) (fun r => some r)))) (fun r => some r))
set_option maxHeartbeats 2000000 in
theorem r_X8_energy (v1 : Int32) (v2 : Int32) (M : Mem) : RG C_X8_energy (0, [some (.ref 19), some (.int v1), some (.int v2), none, none, none], [], M, 0) (d_X8_energy v1 v2 M) (fun r => .inr r) := by
  unfold d_X8_energy
  refine RG.st 3 (congrFun (congrFun (congrFun b_X8_energy_0 v1) v2) M) ?_
  refine RG.callI (fun w2 M1 h1 => RG.st 1 (run_callV (v := (some (.int w2))) rfl rfl rfl rfl rfl h1) ?_) (fun E M1 h1 => RG.fin rfl (Rend.run 1 (run_callVx rfl rfl rfl rfl rfl h1 rfl)))
  show RG C_X8_energy (6, [some (.ref 19), some (.int v1), some (.int v2), none, none, none], [.int w2], M1, 0) _ _
  refine RG.st 1 (congrFun (congrFun (congrFun (congrFun b_X8_energy_1 v1) v2) w2) M1) ?_
  refine RG.ite (fun h2 => RG.brNF (q := 9) h2 rfl ?_) (fun h2 => RG.brNT (q := 11) h2 rfl ?_)
  · exact RG.fin rfl (Rend.run 2 (congrFun (congrFun (congrFun b_X8_energy_2 v1) v2) M1))
  · refine RG.st 4 (congrFun (congrFun (congrFun b_X8_energy_3 v1) v2) M1) ?_
    refine RG.loop (hd := (fun (a1 : Int32 × Int32) => (16, [some (.ref 19), some (.int v1), some (.int v2), some (.int a1.1), some (.int a1.2), none], [], M1, 0))) (ex := (fun (a1 : Int32 × Int32) => (60, [some (.ref 19), some (.int v1), some (.int v2), some (.int a1.1), some (.int a1.2), none], [], M1, 0))) (rt := id) (l_X8_energy_1 v1 v2 M M1) (fun a2 => ?_) (fun r v h => by cases h; rfl)
    show RG C_X8_energy (60, [some (.ref 19), some (.int v1), some (.int v2), some (.int a2.1), some (.int a2.2), none], [], M1, 0) _ _
    exact RG.fin rfl (Rend.run 2 (congrFun (congrFun (congrFun (congrFun b_X8_energy_11 v1) v2) M1) a2))
def fn_X8_energy : Fn := fun av M => match av with
  | [.ref r0, .int v1, .int v2] => bif Nat.beq r0 19 then (d_X8_energy v1 v2 M) else (none)
  | _ => none
theorem cfg_X8_energy : CfgOK RX8 cX8_energy (C_X8_energy) 4 := ⟨tk_X8_energy, csF_nd, flk_X8, (List.forall_mem_cons.mpr ⟨Or.inr ⟨yX8_size, cX8_size, 1, (some .int), none, 1, ok_X8_size, by decide, by decide, w_code_SumsetryModel_size___I, w_initialized_SumsetryModel, ⟨by decide, by decide⟩, Or.inr (Or.inr ⟨rfl, rfl, show (parseMethodDescriptor yX8_size.desc).map (fun d => d.parameters.length + 1) = some 1 from by decide +kernel, w_methodLink_SumsetryModel_49, w_instanceMethod_SumsetryModel_size___I, w_selects_SumsetryModel_size___I, ⟨_, rfl, rfl⟩⟩)⟩,
    List.forall_mem_cons.mpr ⟨Or.inr ⟨yX8_waysTo, cX8_waysTo, 10, (some .int), none, 3, ok_X8_waysTo, by decide, by decide, w_code_SumsetryModel_waysTo__JIJI_I, w_initialized_SumsetryModel, ⟨by decide, by decide⟩, Or.inr (Or.inr ⟨rfl, rfl, show (parseMethodDescriptor yX8_waysTo.desc).map (fun d => d.parameters.length + 1) = some 5 from by decide +kernel, w_methodLink_SumsetryModel_103, w_instanceMethod_SumsetryModel_waysTo__JIJI_I, w_selects_SumsetryModel_waysTo__JIJI_I, ⟨_, rfl, rfl⟩⟩)⟩,
    List.forall_mem_cons.mpr ⟨Or.inr ⟨yX8_areSets, cX8_areSets, 3, (some .boolean), none, 3, ok_X8_areSets, by decide, by decide, w_code_SumsetryModel_areSets__II_Z, w_initialized_SumsetryModel, ⟨by decide, by decide⟩, Or.inr (Or.inr ⟨rfl, rfl, show (parseMethodDescriptor yX8_areSets.desc).map (fun d => d.parameters.length + 1) = some 3 from by decide +kernel, w_methodLink_SumsetryModel_107, w_instanceMethod_SumsetryModel_areSets__II_Z, w_selects_SumsetryModel_areSets__II_Z, ⟨_, rfl, rfl⟩⟩)⟩, fun _ h => absurd h List.not_mem_nil⟩⟩⟩), ink_X8, lgk_X8, fun e h => absurd h List.not_mem_nil, (fun h hh => absurd hh List.not_mem_nil)⟩
theorem ok_X8_energy : OkM csF yX8_energy (Cond.code yX8_energy cX8_energy 6 (some .int)) 4 0 fn_X8_energy :=
  OkM_of (own := RX8) (C := C_X8_energy) (by decide +kernel) rfl (cfg_X8_energy) rfl rfl rfl rfl (by
    intro av M o M' h
    unfold fn_X8_energy at h
    split at h
    · rename_i r0 v1 v2
      rcases bif_cs h with ⟨hb, h⟩ | ⟨-, h⟩
      · skip
        have hr0 := hb
        obtain rfl := Nat.eq_of_beq_eq_true hr0
        exact ⟨rfl, Nat.le_of_ble_eq_true rfl, (r_X8_energy v1 v2 M) (o, M') h⟩
      · cases h
    · cases h)
def t_X8_energyAnew : List (Nat × Instr × Nat) := [(0, .aload_n 0, 1), (1, .iload_n 1, 1), (2, .iload_n 2, 1), (3, .invokevirtual 107, 3), (6, .ifCond .ne 5, 3), (9, .iconst 0, 1), (10, .ireturn, 1), (11, .iconst 0, 1), (12, .istore_n 3, 1), (13, .iconst 0, 1), (14, .istore 4, 2), (16, .iload 4, 2), (18, .aload_n 0, 1), (19, .invokevirtual 49, 3), (22, .if_icmp .ge 51, 3), (25, .iload_n 3, 1), (26, .aload_n 0, 1), (27, .aload_n 0, 1), (28, .getfield 16, 3), (31, .iload_n 1, 1), (32, .laload, 1), (33, .iconst (-1), 1), (34, .aload_n 0, 1), (35, .getfield 16, 3), (38, .iload_n 1, 1), (39, .laload, 1), (40, .iload 4, 2), (42, .invokevirtual 103, 3), (45, .aload_n 0, 1), (46, .aload_n 0, 1), (47, .getfield 16, 3), (50, .iload_n 2, 1), (51, .laload, 1), (52, .iconst (-1), 1), (53, .aload_n 0, 1), (54, .getfield 16, 3), (57, .iload_n 2, 1), (58, .laload, 1), (59, .iload 4, 2), (61, .invokevirtual 103, 3), (64, .imul, 1), (65, .iadd, 1), (66, .istore_n 3, 1), (67, .iinc 4 1, 3), (70, .goto (-54), 3), (73, .iload_n 3, 1), (74, .ireturn, 1)]
theorem tk_X8_energyAnew : ∀ x ∈ t_X8_energyAnew, decode cX8_energyAnew x.1 = .ok x.2 := by decide +kernel
def C_X8_energyAnew : Cfg := (t_X8_energyAnew, csF, fl_X8, [(49, 2, 6, 1, 0, fn_X8_size), (103, 2, 6, 5, 0, fn_X8_waysTo), (107, 2, 6, 3, 0, fn_X8_areSets)], in_X8, lg_X8, [], [], none, (some .int), 0)
set_option maxRecDepth 100000 in
theorem b_X8_energyAnew_0 : (fun (v1 : Int32) (v2 : Int32) (M : Mem) => run C_X8_energyAnew 3 (0, [some (.ref 19), some (.int v1), some (.int v2), none, none], [], M, 0)) = (fun (v1 : Int32) (v2 : Int32) (M : Mem) => some (.inl (3, [some (.ref 19), some (.int v1), some (.int v2), none, none], [.int v2, .int v1, .ref 19], M, 0))) := by rfl
set_option maxRecDepth 100000 in
theorem b_X8_energyAnew_1 : (fun (v1 : Int32) (v2 : Int32) (w2 : Int32) (M1 : Mem) => run C_X8_energyAnew 1 (6, [some (.ref 19), some (.int v1), some (.int v2), none, none], [.int w2], M1, 0)) = (fun (v1 : Int32) (v2 : Int32) (w2 : Int32) (M1 : Mem) => some (.inl ((br (!decide (w2 = 0)) 6 3 (5)), [some (.ref 19), some (.int v1), some (.int v2), none, none], [], M1, 0))) := by rfl
set_option maxRecDepth 100000 in
theorem b_X8_energyAnew_2 : (fun (v1 : Int32) (v2 : Int32) (M1 : Mem) => run C_X8_energyAnew 2 (9, [some (.ref 19), some (.int v1), some (.int v2), none, none], [], M1, 0)) = (fun (v1 : Int32) (v2 : Int32) (M1 : Mem) => some (.inr (.inl (some (.int (0 : Int32))), M1, 0))) := by rfl
set_option maxRecDepth 100000 in
theorem b_X8_energyAnew_3 : (fun (v1 : Int32) (v2 : Int32) (M1 : Mem) => run C_X8_energyAnew 4 (11, [some (.ref 19), some (.int v1), some (.int v2), none, none], [], M1, 0)) = (fun (v1 : Int32) (v2 : Int32) (M1 : Mem) => some (.inl (16, [some (.ref 19), some (.int v1), some (.int v2), some (.int (0 : Int32)), some (.int (0 : Int32))], [], M1, 0))) := by rfl
set_option maxRecDepth 100000 in
theorem b_X8_energyAnew_4 : (fun (v1 : Int32) (v2 : Int32) (M1 : Mem) (a1 : (Int32 × Int32)) => run C_X8_energyAnew 4 (16, [some (.ref 19), some (.int v1), some (.int v2), some (.int a1.1), some (.int a1.2)], [], M1, 0)) = (fun (v1 : Int32) (v2 : Int32) (M1 : Mem) (a1 : (Int32 × Int32)) => some (.inl ((br (!decide (a1.2 < (d_X8_size M1))) 22 3 (51)), [some (.ref 19), some (.int v1), some (.int v2), some (.int a1.1), some (.int a1.2)], [], M1, 0))) := by rfl
set_option maxRecDepth 100000 in
theorem b_X8_energyAnew_5 : (fun (v1 : Int32) (v2 : Int32) (M1 : Mem) (a1 : (Int32 × Int32)) => run C_X8_energyAnew 5 (25, [some (.ref 19), some (.int v1), some (.int v2), some (.int a1.1), some (.int a1.2)], [], M1, 0)) = (fun (v1 : Int32) (v2 : Int32) (M1 : Mem) (a1 : (Int32 × Int32)) => some (.inl (32, [some (.ref 19), some (.int v1), some (.int v2), some (.int a1.1), some (.int a1.2)], [.int v1, .ref 20, .ref 19, .int a1.1], M1, 0))) := by rfl
set_option maxRecDepth 100000 in
theorem b_X8_energyAnew_6 : (fun (v1 : Int32) (v2 : Int32) (M1 : Mem) (a1 : (Int32 × Int32)) => stp C_X8_energyAnew (32, [some (.ref 19), some (.int v1), some (.int v2), some (.int a1.1), some (.int a1.2)], [.int v1, .ref 20, .ref 19, .int a1.1], M1, 0)) = (fun (v1 : Int32) (v2 : Int32) (M1 : Mem) (a1 : (Int32 × Int32)) => (if inb v1 30 = true then some (.inl (33, [some (.ref 19), some (.int v1), some (.int v2), some (.int a1.1), some (.int a1.2)], [.long (M1.2 20 (ix v1)), .ref 19, .int a1.1], M1, 0)) else none)) := by rfl
set_option maxRecDepth 100000 in
theorem b_X8_energyAnew_7 : (fun (v1 : Int32) (v2 : Int32) (M1 : Mem) (a1 : (Int32 × Int32)) => run C_X8_energyAnew 4 (33, [some (.ref 19), some (.int v1), some (.int v2), some (.int a1.1), some (.int a1.2)], [.long (M1.2 20 (ix v1)), .ref 19, .int a1.1], M1, 0)) = (fun (v1 : Int32) (v2 : Int32) (M1 : Mem) (a1 : (Int32 × Int32)) => some (.inl (39, [some (.ref 19), some (.int v1), some (.int v2), some (.int a1.1), some (.int a1.2)], [.int v1, .ref 20, .int (-1 : Int32), .long (M1.2 20 (ix v1)), .ref 19, .int a1.1], M1, 0))) := by rfl
set_option maxRecDepth 100000 in
theorem b_X8_energyAnew_8 : (fun (v1 : Int32) (v2 : Int32) (M1 : Mem) (a1 : (Int32 × Int32)) => stp C_X8_energyAnew (39, [some (.ref 19), some (.int v1), some (.int v2), some (.int a1.1), some (.int a1.2)], [.int v1, .ref 20, .int (-1 : Int32), .long (M1.2 20 (ix v1)), .ref 19, .int a1.1], M1, 0)) = (fun (v1 : Int32) (v2 : Int32) (M1 : Mem) (a1 : (Int32 × Int32)) => (if inb v1 30 = true then some (.inl (40, [some (.ref 19), some (.int v1), some (.int v2), some (.int a1.1), some (.int a1.2)], [.long (M1.2 20 (ix v1)), .int (-1 : Int32), .long (M1.2 20 (ix v1)), .ref 19, .int a1.1], M1, 0)) else none)) := by rfl
set_option maxRecDepth 100000 in
theorem b_X8_energyAnew_9 : (fun (v1 : Int32) (v2 : Int32) (M1 : Mem) (a1 : (Int32 × Int32)) => run C_X8_energyAnew 1 (40, [some (.ref 19), some (.int v1), some (.int v2), some (.int a1.1), some (.int a1.2)], [.long (M1.2 20 (ix v1)), .int (-1 : Int32), .long (M1.2 20 (ix v1)), .ref 19, .int a1.1], M1, 0)) = (fun (v1 : Int32) (v2 : Int32) (M1 : Mem) (a1 : (Int32 × Int32)) => some (.inl (42, [some (.ref 19), some (.int v1), some (.int v2), some (.int a1.1), some (.int a1.2)], [.int a1.2, .long (M1.2 20 (ix v1)), .int (-1 : Int32), .long (M1.2 20 (ix v1)), .ref 19, .int a1.1], M1, 0))) := by rfl
set_option maxRecDepth 100000 in
theorem b_X8_energyAnew_10 : (fun (v1 : Int32) (v2 : Int32) (M1 : Mem) (a1 : (Int32 × Int32)) (w3 : Int32) => run C_X8_energyAnew 4 (45, [some (.ref 19), some (.int v1), some (.int v2), some (.int a1.1), some (.int a1.2)], [.int w3, .int a1.1], M1, 0)) = (fun (v1 : Int32) (v2 : Int32) (M1 : Mem) (a1 : (Int32 × Int32)) (w3 : Int32) => some (.inl (51, [some (.ref 19), some (.int v1), some (.int v2), some (.int a1.1), some (.int a1.2)], [.int v2, .ref 20, .ref 19, .int w3, .int a1.1], M1, 0))) := by rfl
set_option maxRecDepth 100000 in
theorem b_X8_energyAnew_11 : (fun (v1 : Int32) (v2 : Int32) (M1 : Mem) (a1 : (Int32 × Int32)) (w3 : Int32) => stp C_X8_energyAnew (51, [some (.ref 19), some (.int v1), some (.int v2), some (.int a1.1), some (.int a1.2)], [.int v2, .ref 20, .ref 19, .int w3, .int a1.1], M1, 0)) = (fun (v1 : Int32) (v2 : Int32) (M1 : Mem) (a1 : (Int32 × Int32)) (w3 : Int32) => (if inb v2 30 = true then some (.inl (52, [some (.ref 19), some (.int v1), some (.int v2), some (.int a1.1), some (.int a1.2)], [.long (M1.2 20 (ix v2)), .ref 19, .int w3, .int a1.1], M1, 0)) else none)) := by rfl
set_option maxRecDepth 100000 in
theorem b_X8_energyAnew_12 : (fun (v1 : Int32) (v2 : Int32) (M1 : Mem) (a1 : (Int32 × Int32)) (w3 : Int32) => run C_X8_energyAnew 4 (52, [some (.ref 19), some (.int v1), some (.int v2), some (.int a1.1), some (.int a1.2)], [.long (M1.2 20 (ix v2)), .ref 19, .int w3, .int a1.1], M1, 0)) = (fun (v1 : Int32) (v2 : Int32) (M1 : Mem) (a1 : (Int32 × Int32)) (w3 : Int32) => some (.inl (58, [some (.ref 19), some (.int v1), some (.int v2), some (.int a1.1), some (.int a1.2)], [.int v2, .ref 20, .int (-1 : Int32), .long (M1.2 20 (ix v2)), .ref 19, .int w3, .int a1.1], M1, 0))) := by rfl
set_option maxRecDepth 100000 in
theorem b_X8_energyAnew_13 : (fun (v1 : Int32) (v2 : Int32) (M1 : Mem) (a1 : (Int32 × Int32)) (w3 : Int32) => stp C_X8_energyAnew (58, [some (.ref 19), some (.int v1), some (.int v2), some (.int a1.1), some (.int a1.2)], [.int v2, .ref 20, .int (-1 : Int32), .long (M1.2 20 (ix v2)), .ref 19, .int w3, .int a1.1], M1, 0)) = (fun (v1 : Int32) (v2 : Int32) (M1 : Mem) (a1 : (Int32 × Int32)) (w3 : Int32) => (if inb v2 30 = true then some (.inl (59, [some (.ref 19), some (.int v1), some (.int v2), some (.int a1.1), some (.int a1.2)], [.long (M1.2 20 (ix v2)), .int (-1 : Int32), .long (M1.2 20 (ix v2)), .ref 19, .int w3, .int a1.1], M1, 0)) else none)) := by rfl
set_option maxRecDepth 100000 in
theorem b_X8_energyAnew_14 : (fun (v1 : Int32) (v2 : Int32) (M1 : Mem) (a1 : (Int32 × Int32)) (w3 : Int32) => run C_X8_energyAnew 1 (59, [some (.ref 19), some (.int v1), some (.int v2), some (.int a1.1), some (.int a1.2)], [.long (M1.2 20 (ix v2)), .int (-1 : Int32), .long (M1.2 20 (ix v2)), .ref 19, .int w3, .int a1.1], M1, 0)) = (fun (v1 : Int32) (v2 : Int32) (M1 : Mem) (a1 : (Int32 × Int32)) (w3 : Int32) => some (.inl (61, [some (.ref 19), some (.int v1), some (.int v2), some (.int a1.1), some (.int a1.2)], [.int a1.2, .long (M1.2 20 (ix v2)), .int (-1 : Int32), .long (M1.2 20 (ix v2)), .ref 19, .int w3, .int a1.1], M1, 0))) := by rfl
set_option maxRecDepth 100000 in
theorem b_X8_energyAnew_15 : (fun (v1 : Int32) (v2 : Int32) (M1 : Mem) (a1 : (Int32 × Int32)) (w3 : Int32) (w4 : Int32) => run C_X8_energyAnew 5 (64, [some (.ref 19), some (.int v1), some (.int v2), some (.int a1.1), some (.int a1.2)], [.int w4, .int w3, .int a1.1], M1, 0)) = (fun (v1 : Int32) (v2 : Int32) (M1 : Mem) (a1 : (Int32 × Int32)) (w3 : Int32) (w4 : Int32) => some (.inl (16, [some (.ref 19), some (.int v1), some (.int v2), some (.int (a1.1 + (w3 * w4))), some (.int (a1.2 + (1 : Int32)))], [], M1, 0))) := by rfl
def g_X8_energyAnew_1 (v1 : Int32) (v2 : Int32) (M1 : Mem) : Int32 × Int32 → Option ((Int32 × Int32) ⊕ ((Int32 × Int32) ⊕ (Res × Mem))) := fun (a1 : Int32 × Int32) => (if a1.2 < (d_X8_size M1) then (if inb v1 30 = true then (if inb v1 30 = true then ((d_X8_waysTo (M1.2 20 (ix v1)) (-1 : Int32) (M1.2 20 (ix v1)) a1.2 M1).bind fun w3 => (if inb v2 30 = true then (if inb v2 30 = true then ((d_X8_waysTo (M1.2 20 (ix v2)) (-1 : Int32) (M1.2 20 (ix v2)) a1.2 M1).bind fun w4 => some (.inl ((a1.1 + (w3 * w4)), (a1.2 + (1 : Int32))))) else none) else none)) else none) else none) else some (.inr (.inl (a1.1, a1.2))))
set_option maxHeartbeats 2000000 in
theorem l_X8_energyAnew_1 (v1 : Int32) (v2 : Int32) (M : Mem) (M1 : Mem) : ∀ a1 : Int32 × Int32, RG C_X8_energyAnew ((fun (a1 : Int32 × Int32) => (16, [some (.ref 19), some (.int v1), some (.int v2), some (.int a1.1), some (.int a1.2)], [], M1, 0)) a1) (g_X8_energyAnew_1 v1 v2 M1 a1) (lpP (fun (a1 : Int32 × Int32) => (16, [some (.ref 19), some (.int v1), some (.int v2), some (.int a1.1), some (.int a1.2)], [], M1, 0)) (fun (a1 : Int32 × Int32) => (73, [some (.ref 19), some (.int v1), some (.int v2), some (.int a1.1), some (.int a1.2)], [], M1, 0)) id) := by
  intro a1
  unfold g_X8_energyAnew_1
  show RG C_X8_energyAnew (16, [some (.ref 19), some (.int v1), some (.int v2), some (.int a1.1), some (.int a1.2)], [], M1, 0) _ _
  refine RG.st 4 (congrFun (congrFun (congrFun (congrFun b_X8_energyAnew_4 v1) v2) M1) a1) ?_
  refine RG.ite (fun h3 => RG.brNF (q := 25) h3 rfl ?_) (fun h3 => RG.brNT (q := 73) h3 rfl ?_)
  · refine RG.st 5 (congrFun (congrFun (congrFun (congrFun b_X8_energyAnew_5 v1) v2) M1) a1) ?_
    refine RG.guard (fun h4 => RG.st 1 (stp_g h4 (congrFun (congrFun (congrFun (congrFun b_X8_energyAnew_6 v1) v2) M1) a1)) ?_)
    refine RG.st 4 (congrFun (congrFun (congrFun (congrFun b_X8_energyAnew_7 v1) v2) M1) a1) ?_
    refine RG.guard (fun h5 => RG.st 1 (stp_g h5 (congrFun (congrFun (congrFun (congrFun b_X8_energyAnew_8 v1) v2) M1) a1)) ?_)
    refine RG.st 1 (congrFun (congrFun (congrFun (congrFun b_X8_energyAnew_9 v1) v2) M1) a1) ?_
    refine RG.bind (fun w3 h6 => RG.st 1 (run_callV (v := some (.int w3)) rfl rfl rfl rfl rfl (bindI h6)) ?_)
    show RG C_X8_energyAnew (45, [some (.ref 19), some (.int v1), some (.int v2), some (.int a1.1), some (.int a1.2)], [.int w3, .int a1.1], M1, 0) _ _
    refine RG.st 4 (congrFun (congrFun (congrFun (congrFun (congrFun b_X8_energyAnew_10 v1) v2) M1) a1) w3) ?_
    refine RG.guard (fun h7 => RG.st 1 (stp_g h7 (congrFun (congrFun (congrFun (congrFun (congrFun b_X8_energyAnew_11 v1) v2) M1) a1) w3)) ?_)
    refine RG.st 4 (congrFun (congrFun (congrFun (congrFun (congrFun b_X8_energyAnew_12 v1) v2) M1) a1) w3) ?_
    refine RG.guard (fun h8 => RG.st 1 (stp_g h8 (congrFun (congrFun (congrFun (congrFun (congrFun b_X8_energyAnew_13 v1) v2) M1) a1) w3)) ?_)
    refine RG.st 1 (congrFun (congrFun (congrFun (congrFun (congrFun b_X8_energyAnew_14 v1) v2) M1) a1) w3) ?_
    refine RG.bind (fun w4 h9 => RG.st 1 (run_callV (v := some (.int w4)) rfl rfl rfl rfl rfl (bindI h9)) ?_)
    show RG C_X8_energyAnew (64, [some (.ref 19), some (.int v1), some (.int v2), some (.int a1.1), some (.int a1.2)], [.int w4, .int w3, .int a1.1], M1, 0) _ _
    refine RG.st 5 (congrFun (congrFun (congrFun (congrFun (congrFun (congrFun b_X8_energyAnew_15 v1) v2) M1) a1) w3) w4) ?_
    exact RG.to rfl (Rto.refl _)
  · exact RG.to rfl (Rto.refl _)
set_option maxRecDepth 100000 in
theorem b_X8_energyAnew_16 : (fun (v1 : Int32) (v2 : Int32) (M1 : Mem) (a2 : (Int32 × Int32)) => run C_X8_energyAnew 2 (73, [some (.ref 19), some (.int v1), some (.int v2), some (.int a2.1), some (.int a2.2)], [], M1, 0)) = (fun (v1 : Int32) (v2 : Int32) (M1 : Mem) (a2 : (Int32 × Int32)) => some (.inr (.inl (some (.int a2.1)), M1, 0))) := by rfl
def d_X8_energyAnew (v1 : Int32) (v2 : Int32) (M : Mem) : Option (Res × Mem) := (onI (d_X8_areSets v1 v2 M) (fun w2 M1 => (if w2 = 0 then some (.inl (some (.int (0 : Int32))), M1) else (onIt (iter (g_X8_energyAnew_1 v1 v2 M1) 20000 ((0 : Int32), (0 : Int32))) (fun (a2 : Int32 × Int32) => some (.inl (some (.int a2.1)), M1)) (fun r => some r)))) (fun r => some r))
set_option maxHeartbeats 2000000 in
theorem r_X8_energyAnew (v1 : Int32) (v2 : Int32) (M : Mem) : RG C_X8_energyAnew (0, [some (.ref 19), some (.int v1), some (.int v2), none, none], [], M, 0) (d_X8_energyAnew v1 v2 M) (fun r => .inr r) := by
  unfold d_X8_energyAnew
  refine RG.st 3 (congrFun (congrFun (congrFun b_X8_energyAnew_0 v1) v2) M) ?_
  refine RG.callI (fun w2 M1 h1 => RG.st 1 (run_callV (v := (some (.int w2))) rfl rfl rfl rfl rfl h1) ?_) (fun E M1 h1 => RG.fin rfl (Rend.run 1 (run_callVx rfl rfl rfl rfl rfl h1 rfl)))
  show RG C_X8_energyAnew (6, [some (.ref 19), some (.int v1), some (.int v2), none, none], [.int w2], M1, 0) _ _
  refine RG.st 1 (congrFun (congrFun (congrFun (congrFun b_X8_energyAnew_1 v1) v2) w2) M1) ?_
  refine RG.ite (fun h2 => RG.brNF (q := 9) h2 rfl ?_) (fun h2 => RG.brNT (q := 11) h2 rfl ?_)
  · exact RG.fin rfl (Rend.run 2 (congrFun (congrFun (congrFun b_X8_energyAnew_2 v1) v2) M1))
  · refine RG.st 4 (congrFun (congrFun (congrFun b_X8_energyAnew_3 v1) v2) M1) ?_
    refine RG.loop (hd := (fun (a1 : Int32 × Int32) => (16, [some (.ref 19), some (.int v1), some (.int v2), some (.int a1.1), some (.int a1.2)], [], M1, 0))) (ex := (fun (a1 : Int32 × Int32) => (73, [some (.ref 19), some (.int v1), some (.int v2), some (.int a1.1), some (.int a1.2)], [], M1, 0))) (rt := id) (l_X8_energyAnew_1 v1 v2 M M1) (fun a2 => ?_) (fun r v h => by cases h; rfl)
    show RG C_X8_energyAnew (73, [some (.ref 19), some (.int v1), some (.int v2), some (.int a2.1), some (.int a2.2)], [], M1, 0) _ _
    exact RG.fin rfl (Rend.run 2 (congrFun (congrFun (congrFun (congrFun b_X8_energyAnew_16 v1) v2) M1) a2))
def fn_X8_energyAnew : Fn := fun av M => match av with
  | [.ref r0, .int v1, .int v2] => bif Nat.beq r0 19 then (d_X8_energyAnew v1 v2 M) else (none)
  | _ => none
theorem cfg_X8_energyAnew : CfgOK RX8 cX8_energyAnew (C_X8_energyAnew) 4 := ⟨tk_X8_energyAnew, csF_nd, flk_X8, (List.forall_mem_cons.mpr ⟨Or.inr ⟨yX8_size, cX8_size, 1, (some .int), none, 1, ok_X8_size, by decide, by decide, w_code_SumsetryModel_size___I, w_initialized_SumsetryModel, ⟨by decide, by decide⟩, Or.inr (Or.inr ⟨rfl, rfl, show (parseMethodDescriptor yX8_size.desc).map (fun d => d.parameters.length + 1) = some 1 from by decide +kernel, w_methodLink_SumsetryModel_49, w_instanceMethod_SumsetryModel_size___I, w_selects_SumsetryModel_size___I, ⟨_, rfl, rfl⟩⟩)⟩,
    List.forall_mem_cons.mpr ⟨Or.inr ⟨yX8_waysTo, cX8_waysTo, 10, (some .int), none, 3, ok_X8_waysTo, by decide, by decide, w_code_SumsetryModel_waysTo__JIJI_I, w_initialized_SumsetryModel, ⟨by decide, by decide⟩, Or.inr (Or.inr ⟨rfl, rfl, show (parseMethodDescriptor yX8_waysTo.desc).map (fun d => d.parameters.length + 1) = some 5 from by decide +kernel, w_methodLink_SumsetryModel_103, w_instanceMethod_SumsetryModel_waysTo__JIJI_I, w_selects_SumsetryModel_waysTo__JIJI_I, ⟨_, rfl, rfl⟩⟩)⟩,
    List.forall_mem_cons.mpr ⟨Or.inr ⟨yX8_areSets, cX8_areSets, 3, (some .boolean), none, 3, ok_X8_areSets, by decide, by decide, w_code_SumsetryModel_areSets__II_Z, w_initialized_SumsetryModel, ⟨by decide, by decide⟩, Or.inr (Or.inr ⟨rfl, rfl, show (parseMethodDescriptor yX8_areSets.desc).map (fun d => d.parameters.length + 1) = some 3 from by decide +kernel, w_methodLink_SumsetryModel_107, w_instanceMethod_SumsetryModel_areSets__II_Z, w_selects_SumsetryModel_areSets__II_Z, ⟨_, rfl, rfl⟩⟩)⟩, fun _ h => absurd h List.not_mem_nil⟩⟩⟩), ink_X8, lgk_X8, fun e h => absurd h List.not_mem_nil, (fun h hh => absurd hh List.not_mem_nil)⟩
theorem ok_X8_energyAnew : OkM csF yX8_energyAnew (Cond.code yX8_energyAnew cX8_energyAnew 5 (some .int)) 4 0 fn_X8_energyAnew :=
  OkM_of (own := RX8) (C := C_X8_energyAnew) (by decide +kernel) rfl (cfg_X8_energyAnew) rfl rfl rfl rfl (by
    intro av M o M' h
    unfold fn_X8_energyAnew at h
    split at h
    · rename_i r0 v1 v2
      rcases bif_cs h with ⟨hb, h⟩ | ⟨-, h⟩
      · skip
        have hr0 := hb
        obtain rfl := Nat.eq_of_beq_eq_true hr0
        exact ⟨rfl, Nat.le_of_ble_eq_true rfl, (r_X8_energyAnew v1 v2 M) (o, M') h⟩
      · cases h
    · cases h)
def t_X8_stabilizerOf : List (Nat × Instr × Nat) := [(0, .lconst 0, 1), (1, .lstore_n 3, 1), (2, .iconst 0, 1), (3, .istore 5, 2), (5, .iload 5, 2), (7, .aload_n 0, 1), (8, .invokevirtual 49, 3), (11, .if_icmp .ge 34, 3), (14, .lload_n 3, 1), (15, .aload_n 0, 1), (16, .lconst 1, 1), (17, .iload 5, 2), (19, .lshl, 1), (20, .lload_n 1, 1), (21, .invokevirtual 99, 3), (24, .lload_n 1, 1), (25, .lcmp, 1), (26, .ifCond .ne 10, 3), (29, .lconst 1, 1), (30, .iload 5, 2), (32, .lshl, 1), (33, .goto 4, 3), (36, .lconst 0, 1), (37, .lor, 1), (38, .lstore_n 3, 1), (39, .iinc 5 1, 3), (42, .goto (-37), 3), (45, .lload_n 3, 1), (46, .lreturn, 1)]
theorem tk_X8_stabilizerOf : ∀ x ∈ t_X8_stabilizerOf, decode cX8_stabilizerOf x.1 = .ok x.2 := by decide +kernel
def C_X8_stabilizerOf : Cfg := (t_X8_stabilizerOf, csF, fl_X8, [(49, 2, 6, 1, 0, fn_X8_size), (99, 2, 6, 3, 0, fn_X8_sumOf)], in_X8, lg_X8, [], [], none, (some .long), 0)
set_option maxRecDepth 100000 in
theorem b_X8_stabilizerOf_0 : (fun (v1 : Int64) (M : Mem) => run C_X8_stabilizerOf 4 (0, [some (.ref 19), some (.long v1), none, none, none, none], [], M, 0)) = (fun (v1 : Int64) (M : Mem) => some (.inl (5, [some (.ref 19), some (.long v1), none, some (.long (0 : Int64)), none, some (.int (0 : Int32))], [], M, 0))) := by rfl
set_option maxRecDepth 100000 in
theorem b_X8_stabilizerOf_1 : (fun (v1 : Int64) (M : Mem) (a1 : (Int64 × Int32)) => run C_X8_stabilizerOf 4 (5, [some (.ref 19), some (.long v1), none, some (.long a1.1), none, some (.int a1.2)], [], M, 0)) = (fun (v1 : Int64) (M : Mem) (a1 : (Int64 × Int32)) => some (.inl ((br (!decide (a1.2 < (d_X8_size M))) 11 3 (34)), [some (.ref 19), some (.long v1), none, some (.long a1.1), none, some (.int a1.2)], [], M, 0))) := by rfl
set_option maxRecDepth 100000 in
theorem b_X8_stabilizerOf_2 : (fun (v1 : Int64) (M : Mem) (a1 : (Int64 × Int32)) => run C_X8_stabilizerOf 6 (14, [some (.ref 19), some (.long v1), none, some (.long a1.1), none, some (.int a1.2)], [], M, 0)) = (fun (v1 : Int64) (M : Mem) (a1 : (Int64 × Int32)) => some (.inl (21, [some (.ref 19), some (.long v1), none, some (.long a1.1), none, some (.int a1.2)], [.long v1, .long (jshl (1 : Int64) a1.2), .ref 19, .long a1.1], M, 0))) := by rfl
set_option maxRecDepth 100000 in
theorem b_X8_stabilizerOf_3 : (fun (v1 : Int64) (M : Mem) (a1 : (Int64 × Int32)) (w1 : Int64) => run C_X8_stabilizerOf 3 (24, [some (.ref 19), some (.long v1), none, some (.long a1.1), none, some (.int a1.2)], [.long w1, .long a1.1], M, 0)) = (fun (v1 : Int64) (M : Mem) (a1 : (Int64 × Int32)) (w1 : Int64) => some (.inl ((br (!decide ((lg_cmp w1 v1) = 0)) 26 3 (10)), [some (.ref 19), some (.long v1), none, some (.long a1.1), none, some (.int a1.2)], [.long a1.1], M, 0))) := by rfl
set_option maxRecDepth 100000 in
theorem b_X8_stabilizerOf_4 : (fun (v1 : Int64) (M : Mem) (a1 : (Int64 × Int32)) => run C_X8_stabilizerOf 1 (36, [some (.ref 19), some (.long v1), none, some (.long a1.1), none, some (.int a1.2)], [.long a1.1], M, 0)) = (fun (v1 : Int64) (M : Mem) (a1 : (Int64 × Int32)) => some (.inl (37, [some (.ref 19), some (.long v1), none, some (.long a1.1), none, some (.int a1.2)], [.long (0 : Int64), .long a1.1], M, 0))) := by rfl
set_option maxRecDepth 100000 in
theorem b_X8_stabilizerOf_5 : (fun (v1 : Int64) (M : Mem) (a1 : (Int64 × Int32)) => run C_X8_stabilizerOf 4 (29, [some (.ref 19), some (.long v1), none, some (.long a1.1), none, some (.int a1.2)], [.long a1.1], M, 0)) = (fun (v1 : Int64) (M : Mem) (a1 : (Int64 × Int32)) => some (.inl (37, [some (.ref 19), some (.long v1), none, some (.long a1.1), none, some (.int a1.2)], [.long (jshl (1 : Int64) a1.2), .long a1.1], M, 0))) := by rfl
theorem m_X8_stabilizerOf_0 (v1 : Int64) (M : Mem) (a1 : (Int64 × Int32)) (w1 : Int64) : Rto C_X8_stabilizerOf (24, [some (.ref 19), some (.long v1), none, some (.long a1.1), none, some (.int a1.2)], [.long w1, .long a1.1], M, 0) (37, [some (.ref 19), some (.long v1), none, some (.long a1.1), none, some (.int a1.2)], [.long (if (lg_cmp w1 v1) = 0 then (jshl (1 : Int64) a1.2) else (0 : Int64)), .long a1.1], M, 0) := by
  refine Rto.trans (Rto.run 3 (congrFun (congrFun (congrFun (congrFun b_X8_stabilizerOf_3 v1) M) a1) w1)) ?_
  by_cases h : (lg_cmp w1 v1) = 0
  · refine Rto.trans (Rto.brNF (q := 29) h rfl) ?_
    refine Rto.trans (Rto.run 4 (congrFun (congrFun (congrFun b_X8_stabilizerOf_5 v1) M) a1)) ?_
    exact Rto.eq (by first | (simp only [if_pos h]; done) | rfl | exact absurd rfl h | (simp; done))
  · refine Rto.trans (Rto.brNT (q := 36) h rfl) ?_
    refine Rto.trans (Rto.run 1 (congrFun (congrFun (congrFun b_X8_stabilizerOf_4 v1) M) a1)) ?_
    exact Rto.eq (by first | (simp only [if_neg h]; done) | rfl | exact absurd rfl h | (simp; done))
set_option maxRecDepth 100000 in
theorem b_X8_stabilizerOf_6 : (fun (v1 : Int64) (M : Mem) (a1 : (Int64 × Int32)) (w1 : Int64) => run C_X8_stabilizerOf 4 (37, [some (.ref 19), some (.long v1), none, some (.long a1.1), none, some (.int a1.2)], [.long (if (lg_cmp w1 v1) = 0 then (jshl (1 : Int64) a1.2) else (0 : Int64)), .long a1.1], M, 0)) = (fun (v1 : Int64) (M : Mem) (a1 : (Int64 × Int32)) (w1 : Int64) => some (.inl (5, [some (.ref 19), some (.long v1), none, some (.long (a1.1 ||| (if (lg_cmp w1 v1) = 0 then (jshl (1 : Int64) a1.2) else (0 : Int64)))), none, some (.int (a1.2 + (1 : Int32)))], [], M, 0))) := by rfl
def g_X8_stabilizerOf_1 (v1 : Int64) (M : Mem) : Int64 × Int32 → Option ((Int64 × Int32) ⊕ ((Int64 × Int32) ⊕ Int64)) := fun (a1 : Int64 × Int32) => (if a1.2 < (d_X8_size M) then ((d_X8_sumOf (jshl (1 : Int64) a1.2) v1 M).bind fun w1 => some (.inl ((a1.1 ||| (if (lg_cmp w1 v1) = 0 then (jshl (1 : Int64) a1.2) else (0 : Int64))), (a1.2 + (1 : Int32))))) else some (.inr (.inl (a1.1, a1.2))))
set_option maxHeartbeats 2000000 in
theorem l_X8_stabilizerOf_1 (v1 : Int64) (M : Mem) : ∀ a1 : Int64 × Int32, RG C_X8_stabilizerOf ((fun (a1 : Int64 × Int32) => (5, [some (.ref 19), some (.long v1), none, some (.long a1.1), none, some (.int a1.2)], [], M, 0)) a1) (g_X8_stabilizerOf_1 v1 M a1) (lpP (fun (a1 : Int64 × Int32) => (5, [some (.ref 19), some (.long v1), none, some (.long a1.1), none, some (.int a1.2)], [], M, 0)) (fun (a1 : Int64 × Int32) => (45, [some (.ref 19), some (.long v1), none, some (.long a1.1), none, some (.int a1.2)], [], M, 0)) (fun (v : Int64) => (.inl (some (.long v)), M))) := by
  intro a1
  unfold g_X8_stabilizerOf_1
  show RG C_X8_stabilizerOf (5, [some (.ref 19), some (.long v1), none, some (.long a1.1), none, some (.int a1.2)], [], M, 0) _ _
  refine RG.st 4 (congrFun (congrFun (congrFun b_X8_stabilizerOf_1 v1) M) a1) ?_
  refine RG.ite (fun h1 => RG.brNF (q := 14) h1 rfl ?_) (fun h1 => RG.brNT (q := 45) h1 rfl ?_)
  · refine RG.st 6 (congrFun (congrFun (congrFun b_X8_stabilizerOf_2 v1) M) a1) ?_
    refine RG.bind (fun w1 h2 => RG.st 1 (run_callV (v := some (.long w1)) rfl rfl rfl rfl rfl (bindL h2)) ?_)
    show RG C_X8_stabilizerOf (24, [some (.ref 19), some (.long v1), none, some (.long a1.1), none, some (.int a1.2)], [.long w1, .long a1.1], M, 0) _ _
    refine RG.step (m_X8_stabilizerOf_0 v1 M a1 w1) ?_
    refine RG.st 4 (congrFun (congrFun (congrFun (congrFun b_X8_stabilizerOf_6 v1) M) a1) w1) ?_
    exact RG.to rfl (Rto.refl _)
  · exact RG.to rfl (Rto.refl _)
set_option maxRecDepth 100000 in
theorem b_X8_stabilizerOf_7 : (fun (v1 : Int64) (M : Mem) (a2 : (Int64 × Int32)) => run C_X8_stabilizerOf 2 (45, [some (.ref 19), some (.long v1), none, some (.long a2.1), none, some (.int a2.2)], [], M, 0)) = (fun (v1 : Int64) (M : Mem) (a2 : (Int64 × Int32)) => some (.inr (.inl (some (.long a2.1)), M, 0))) := by rfl
def d_X8_stabilizerOf (v1 : Int64) (M : Mem) : Option Int64 := (onIt (iter (g_X8_stabilizerOf_1 v1 M) 20000 ((0 : Int64), (0 : Int32))) (fun (a2 : Int64 × Int32) => some a2.1) (fun r => some r))
set_option maxHeartbeats 2000000 in
theorem r_X8_stabilizerOf (v1 : Int64) (M : Mem) : RG C_X8_stabilizerOf (0, [some (.ref 19), some (.long v1), none, none, none, none], [], M, 0) (d_X8_stabilizerOf v1 M) (fun v => .inr (.inl (some (.long v)), M)) := by
  unfold d_X8_stabilizerOf
  refine RG.st 4 (congrFun (congrFun b_X8_stabilizerOf_0 v1) M) ?_
  refine RG.loop (hd := (fun (a1 : Int64 × Int32) => (5, [some (.ref 19), some (.long v1), none, some (.long a1.1), none, some (.int a1.2)], [], M, 0))) (ex := (fun (a1 : Int64 × Int32) => (45, [some (.ref 19), some (.long v1), none, some (.long a1.1), none, some (.int a1.2)], [], M, 0))) (rt := (fun (v : Int64) => (.inl (some (.long v)), M))) (l_X8_stabilizerOf_1 v1 M) (fun a2 => ?_) (fun r v h => by cases h; rfl)
  show RG C_X8_stabilizerOf (45, [some (.ref 19), some (.long v1), none, some (.long a2.1), none, some (.int a2.2)], [], M, 0) _ _
  exact RG.fin rfl (Rend.run 2 (congrFun (congrFun (congrFun b_X8_stabilizerOf_7 v1) M) a2))
def fn_X8_stabilizerOf : Fn := fun av M => match av with
  | [.ref r0, .long v1] => bif Nat.beq r0 19 then (d_X8_stabilizerOf v1 M).bind fun v => some (.inl (some (.long v)), M) else (none)
  | _ => none
theorem cfg_X8_stabilizerOf : CfgOK RX8 cX8_stabilizerOf (C_X8_stabilizerOf) 5 := ⟨tk_X8_stabilizerOf, csF_nd, flk_X8, (List.forall_mem_cons.mpr ⟨Or.inr ⟨yX8_size, cX8_size, 1, (some .int), none, 1, ok_X8_size, by decide, by decide, w_code_SumsetryModel_size___I, w_initialized_SumsetryModel, ⟨by decide, by decide⟩, Or.inr (Or.inr ⟨rfl, rfl, show (parseMethodDescriptor yX8_size.desc).map (fun d => d.parameters.length + 1) = some 1 from by decide +kernel, w_methodLink_SumsetryModel_49, w_instanceMethod_SumsetryModel_size___I, w_selects_SumsetryModel_size___I, ⟨_, rfl, rfl⟩⟩)⟩,
    List.forall_mem_cons.mpr ⟨Or.inr ⟨yX8_sumOf, cX8_sumOf, 5, (some .long), none, 4, ok_X8_sumOf, by decide, by decide, w_code_SumsetryModel_sumOf__JJ_J, w_initialized_SumsetryModel, ⟨by decide, by decide⟩, Or.inr (Or.inr ⟨rfl, rfl, show (parseMethodDescriptor yX8_sumOf.desc).map (fun d => d.parameters.length + 1) = some 3 from by decide +kernel, w_methodLink_SumsetryModel_99, w_instanceMethod_SumsetryModel_sumOf__JJ_J, w_selects_SumsetryModel_sumOf__JJ_J, ⟨_, rfl, rfl⟩⟩)⟩, fun _ h => absurd h List.not_mem_nil⟩⟩), ink_X8, lgk_X8, fun e h => absurd h List.not_mem_nil, (fun h hh => absurd hh List.not_mem_nil)⟩
theorem ok_X8_stabilizerOf : OkM csF yX8_stabilizerOf (Cond.code yX8_stabilizerOf cX8_stabilizerOf 6 (some .long)) 5 0 fn_X8_stabilizerOf :=
  OkM_of (own := RX8) (C := C_X8_stabilizerOf) (by decide +kernel) rfl (cfg_X8_stabilizerOf) rfl rfl rfl rfl (by
    intro av M o M' h
    unfold fn_X8_stabilizerOf at h
    split at h
    · rename_i r0 v1
      rcases bif_cs h with ⟨hb, h⟩ | ⟨-, h⟩
      · skip
        have hr0 := hb
        obtain rfl := Nat.eq_of_beq_eq_true hr0
        obtain ⟨w, hw, h⟩ := bind_cs h
        cases h
        exact ⟨rfl, Nat.le_of_ble_eq_true rfl, (r_X8_stabilizerOf v1 M) w hw⟩
      · cases h
    · cases h)
