/-! methods: X8_move, X8_elements, X8_waysTo, X8_areSets, X8_ways -/
def t_X8_move : List (Nat × Instr × Nat) := [(0, .aload_n 0, 1), (1, .aload_n 0, 1), (2, .iload_n 1, 1), (3, .invokevirtual 96, 3), (6, .ifCond .eq 11, 3), (9, .aload_n 0, 1), (10, .iload_n 3, 1), (11, .invokevirtual 78, 3), (14, .ifCond .ne 7, 3), (17, .iconst 1, 1), (18, .goto 32, 3), (21, .iload_n 2, 1), (22, .bipush (-100), 2), (24, .bipush 100, 2), (26, .invokestatic 53, 3), (29, .ifCond .ne 7, 3), (32, .iconst 2, 1), (33, .goto 17, 3), (36, .aload_n 0, 1), (37, .getfield 57, 3), (40, .bipush 30, 2), (42, .if_icmp .ne 7, 3), (45, .iconst 3, 1), (46, .goto 4, 3), (49, .iconst 0, 1), (50, .putfield 46, 3), (53, .aload_n 0, 1), (54, .getfield 46, 3), (57, .ifCond .le 5, 3), (60, .iconst 0, 1), (61, .ireturn, 1), (62, .aload_n 0, 1), (63, .aload_n 0, 1), (64, .lconst 1, 1), (65, .iload_n 3, 1), (66, .lshl, 1), (67, .iload_n 2, 1), (68, .aload_n 0, 1), (69, .getfield 16, 3), (72, .iload_n 1, 1), (73, .laload, 1), (74, .iconst 0, 1), (75, .invokevirtual 92, 3), (78, .invokevirtual 88, 3), (81, .ireturn, 1)]
theorem tk_X8_move : ∀ x ∈ t_X8_move, decode cX8_move x.1 = .ok x.2 := by decide +kernel
def C_X8_move : Cfg := (t_X8_move, csF, fl_X8, [(53, 0, 6, 3, 0, fn_X8_isIn), (78, 2, 6, 2, 0, fn_X8_isElement), (88, 2, 6, 2, 0, fn_X8_enters), (92, 2, 6, 5, 0, fn_X8_allSums), (96, 2, 6, 2, 0, fn_X8_isSet)], in_X8, lg_X8, [], [], none, (some .int), 0)
set_option maxRecDepth 100000 in
theorem b_X8_move_0 : (fun (v1 : Int32) (v2 : Int32) (v3 : Int32) (M : Mem) => run C_X8_move 5 (0, [some (.ref 19), some (.int v1), some (.int v2), some (.int v3)], [], M, 0)) = (fun (v1 : Int32) (v2 : Int32) (v3 : Int32) (M : Mem) => some (.inl ((br (decide ((d_X8_isSet v1 M) = 0)) 6 3 (11)), [some (.ref 19), some (.int v1), some (.int v2), some (.int v3)], [.ref 19], M, 0))) := by rfl
set_option maxRecDepth 100000 in
theorem b_X8_move_1 : (fun (v1 : Int32) (v2 : Int32) (v3 : Int32) (M : Mem) => run C_X8_move 2 (17, [some (.ref 19), some (.int v1), some (.int v2), some (.int v3)], [.ref 19], M, 0)) = (fun (v1 : Int32) (v2 : Int32) (v3 : Int32) (M : Mem) => some (.inl (50, [some (.ref 19), some (.int v1), some (.int v2), some (.int v3)], [.int (1 : Int32), .ref 19], M, 0))) := by rfl
set_option maxRecDepth 100000 in
theorem b_X8_move_2 : (fun (v1 : Int32) (v2 : Int32) (v3 : Int32) (M : Mem) => run C_X8_move 4 (9, [some (.ref 19), some (.int v1), some (.int v2), some (.int v3)], [.ref 19], M, 0)) = (fun (v1 : Int32) (v2 : Int32) (v3 : Int32) (M : Mem) => some (.inl ((br (!decide ((d_X8_isElement v3 M) = 0)) 14 3 (7)), [some (.ref 19), some (.int v1), some (.int v2), some (.int v3)], [.ref 19], M, 0))) := by rfl
set_option maxRecDepth 100000 in
theorem b_X8_move_3 : (fun (v1 : Int32) (v2 : Int32) (v3 : Int32) (M : Mem) => run C_X8_move 5 (21, [some (.ref 19), some (.int v1), some (.int v2), some (.int v3)], [.ref 19], M, 0)) = (fun (v1 : Int32) (v2 : Int32) (v3 : Int32) (M : Mem) => some (.inl ((br (!decide ((d_X8_isIn v2 (-100 : Int32) (100 : Int32)) = 0)) 29 3 (7)), [some (.ref 19), some (.int v1), some (.int v2), some (.int v3)], [.ref 19], M, 0))) := by rfl
set_option maxRecDepth 100000 in
theorem b_X8_move_4 : (fun (v1 : Int32) (v2 : Int32) (v3 : Int32) (M : Mem) => run C_X8_move 4 (36, [some (.ref 19), some (.int v1), some (.int v2), some (.int v3)], [.ref 19], M, 0)) = (fun (v1 : Int32) (v2 : Int32) (v3 : Int32) (M : Mem) => some (.inl ((br (!decide ((M.1 19 2) = (30 : Int32))) 42 3 (7)), [some (.ref 19), some (.int v1), some (.int v2), some (.int v3)], [.ref 19], M, 0))) := by rfl
set_option maxRecDepth 100000 in
theorem b_X8_move_5 : (fun (v1 : Int32) (v2 : Int32) (v3 : Int32) (M : Mem) => run C_X8_move 1 (49, [some (.ref 19), some (.int v1), some (.int v2), some (.int v3)], [.ref 19], M, 0)) = (fun (v1 : Int32) (v2 : Int32) (v3 : Int32) (M : Mem) => some (.inl (50, [some (.ref 19), some (.int v1), some (.int v2), some (.int v3)], [.int (0 : Int32), .ref 19], M, 0))) := by rfl
set_option maxRecDepth 100000 in
theorem b_X8_move_6 : (fun (v1 : Int32) (v2 : Int32) (v3 : Int32) (M : Mem) => run C_X8_move 2 (45, [some (.ref 19), some (.int v1), some (.int v2), some (.int v3)], [.ref 19], M, 0)) = (fun (v1 : Int32) (v2 : Int32) (v3 : Int32) (M : Mem) => some (.inl (50, [some (.ref 19), some (.int v1), some (.int v2), some (.int v3)], [.int (3 : Int32), .ref 19], M, 0))) := by rfl
theorem m_X8_move_0 (v1 : Int32) (v2 : Int32) (v3 : Int32) (M : Mem) : Rto C_X8_move (36, [some (.ref 19), some (.int v1), some (.int v2), some (.int v3)], [.ref 19], M, 0) (50, [some (.ref 19), some (.int v1), some (.int v2), some (.int v3)], [.int (if (M.1 19 2) = (30 : Int32) then (3 : Int32) else (0 : Int32)), .ref 19], M, 0) := by
  refine Rto.trans (Rto.run 4 (congrFun (congrFun (congrFun (congrFun b_X8_move_4 v1) v2) v3) M)) ?_
  by_cases h : (M.1 19 2) = (30 : Int32)
  · refine Rto.trans (Rto.brNF (q := 45) h rfl) ?_
    refine Rto.trans (Rto.run 2 (congrFun (congrFun (congrFun (congrFun b_X8_move_6 v1) v2) v3) M)) ?_
    exact Rto.eq (by first | (simp only [if_pos h]; done) | rfl | exact absurd rfl h | (simp; done))
  · refine Rto.trans (Rto.brNT (q := 49) h rfl) ?_
    refine Rto.trans (Rto.run 1 (congrFun (congrFun (congrFun (congrFun b_X8_move_5 v1) v2) v3) M)) ?_
    exact Rto.eq (by first | (simp only [if_neg h]; done) | rfl | exact absurd rfl h | (simp; done))
set_option maxRecDepth 100000 in
theorem b_X8_move_7 : (fun (v1 : Int32) (v2 : Int32) (v3 : Int32) (M : Mem) => run C_X8_move 2 (32, [some (.ref 19), some (.int v1), some (.int v2), some (.int v3)], [.ref 19], M, 0)) = (fun (v1 : Int32) (v2 : Int32) (v3 : Int32) (M : Mem) => some (.inl (50, [some (.ref 19), some (.int v1), some (.int v2), some (.int v3)], [.int (2 : Int32), .ref 19], M, 0))) := by rfl
theorem m_X8_move_1 (v1 : Int32) (v2 : Int32) (v3 : Int32) (M : Mem) : Rto C_X8_move (21, [some (.ref 19), some (.int v1), some (.int v2), some (.int v3)], [.ref 19], M, 0) (50, [some (.ref 19), some (.int v1), some (.int v2), some (.int v3)], [.int (if (d_X8_isIn v2 (-100 : Int32) (100 : Int32)) = 0 then (2 : Int32) else (if (M.1 19 2) = (30 : Int32) then (3 : Int32) else (0 : Int32))), .ref 19], M, 0) := by
  refine Rto.trans (Rto.run 5 (congrFun (congrFun (congrFun (congrFun b_X8_move_3 v1) v2) v3) M)) ?_
  by_cases h : (d_X8_isIn v2 (-100 : Int32) (100 : Int32)) = 0
  · refine Rto.trans (Rto.brNF (q := 32) h rfl) ?_
    refine Rto.trans (Rto.run 2 (congrFun (congrFun (congrFun (congrFun b_X8_move_7 v1) v2) v3) M)) ?_
    exact Rto.eq (by first | (simp only [if_pos h]; done) | rfl | exact absurd rfl h | (simp; done))
  · refine Rto.trans (Rto.brNT (q := 36) h rfl) ?_
    refine Rto.trans (m_X8_move_0 v1 v2 v3 M) ?_
    exact Rto.eq (by first | (simp only [if_neg h]; done) | rfl | exact absurd rfl h | (simp; done))
set_option maxRecDepth 100000 in
theorem b_X8_move_8 : (fun (v1 : Int32) (v2 : Int32) (v3 : Int32) (M : Mem) => run C_X8_move 2 (17, [some (.ref 19), some (.int v1), some (.int v2), some (.int v3)], [.ref 19], M, 0)) = (fun (v1 : Int32) (v2 : Int32) (v3 : Int32) (M : Mem) => some (.inl (50, [some (.ref 19), some (.int v1), some (.int v2), some (.int v3)], [.int (1 : Int32), .ref 19], M, 0))) := by rfl
theorem m_X8_move_2 (v1 : Int32) (v2 : Int32) (v3 : Int32) (M : Mem) : Rto C_X8_move (9, [some (.ref 19), some (.int v1), some (.int v2), some (.int v3)], [.ref 19], M, 0) (50, [some (.ref 19), some (.int v1), some (.int v2), some (.int v3)], [.int (if (d_X8_isElement v3 M) = 0 then (1 : Int32) else (if (d_X8_isIn v2 (-100 : Int32) (100 : Int32)) = 0 then (2 : Int32) else (if (M.1 19 2) = (30 : Int32) then (3 : Int32) else (0 : Int32)))), .ref 19], M, 0) := by
  refine Rto.trans (Rto.run 4 (congrFun (congrFun (congrFun (congrFun b_X8_move_2 v1) v2) v3) M)) ?_
  by_cases h : (d_X8_isElement v3 M) = 0
  · refine Rto.trans (Rto.brNF (q := 17) h rfl) ?_
    refine Rto.trans (Rto.run 2 (congrFun (congrFun (congrFun (congrFun b_X8_move_8 v1) v2) v3) M)) ?_
    exact Rto.eq (by first | (simp only [if_pos h]; done) | rfl | exact absurd rfl h | (simp; done))
  · refine Rto.trans (Rto.brNT (q := 21) h rfl) ?_
    refine Rto.trans (m_X8_move_1 v1 v2 v3 M) ?_
    exact Rto.eq (by first | (simp only [if_neg h]; done) | rfl | exact absurd rfl h | (simp; done))
theorem m_X8_move_3 (v1 : Int32) (v2 : Int32) (v3 : Int32) (M : Mem) : Rto C_X8_move (0, [some (.ref 19), some (.int v1), some (.int v2), some (.int v3)], [], M, 0) (50, [some (.ref 19), some (.int v1), some (.int v2), some (.int v3)], [.int (if (d_X8_isSet v1 M) = 0 then (1 : Int32) else (if (d_X8_isElement v3 M) = 0 then (1 : Int32) else (if (d_X8_isIn v2 (-100 : Int32) (100 : Int32)) = 0 then (2 : Int32) else (if (M.1 19 2) = (30 : Int32) then (3 : Int32) else (0 : Int32))))), .ref 19], M, 0) := by
  refine Rto.trans (Rto.run 5 (congrFun (congrFun (congrFun (congrFun b_X8_move_0 v1) v2) v3) M)) ?_
  by_cases h : (d_X8_isSet v1 M) = 0
  · refine Rto.trans (Rto.brT (q := 17) h rfl) ?_
    refine Rto.trans (Rto.run 2 (congrFun (congrFun (congrFun (congrFun b_X8_move_1 v1) v2) v3) M)) ?_
    exact Rto.eq (by first | (simp only [if_pos h]; done) | rfl | exact absurd rfl h | (simp; done))
  · refine Rto.trans (Rto.brF (q := 9) h rfl) ?_
    refine Rto.trans (m_X8_move_2 v1 v2 v3 M) ?_
    exact Rto.eq (by first | (simp only [if_neg h]; done) | rfl | exact absurd rfl h | (simp; done))
set_option maxRecDepth 100000 in
theorem b_X8_move_9 : (fun (v1 : Int32) (v2 : Int32) (v3 : Int32) (M : Mem) => run C_X8_move 4 (50, [some (.ref 19), some (.int v1), some (.int v2), some (.int v3)], [.int (if (d_X8_isSet v1 M) = 0 then (1 : Int32) else (if (d_X8_isElement v3 M) = 0 then (1 : Int32) else (if (d_X8_isIn v2 (-100 : Int32) (100 : Int32)) = 0 then (2 : Int32) else (if (M.1 19 2) = (30 : Int32) then (3 : Int32) else (0 : Int32))))), .ref 19], M, 0)) = (fun (v1 : Int32) (v2 : Int32) (v3 : Int32) (M : Mem) => some (.inl ((br (decide ((if (d_X8_isSet v1 M) = 0 then (1 : Int32) else (if (d_X8_isElement v3 M) = 0 then (1 : Int32) else (if (d_X8_isIn v2 (-100 : Int32) (100 : Int32)) = 0 then (2 : Int32) else (if (M.1 19 2) = (30 : Int32) then (3 : Int32) else (0 : Int32))))) ≤ 0)) 57 3 (5)), [some (.ref 19), some (.int v1), some (.int v2), some (.int v3)], [], (sI M 19 15 (if (d_X8_isSet v1 M) = 0 then (1 : Int32) else (if (d_X8_isElement v3 M) = 0 then (1 : Int32) else (if (d_X8_isIn v2 (-100 : Int32) (100 : Int32)) = 0 then (2 : Int32) else (if (M.1 19 2) = (30 : Int32) then (3 : Int32) else (0 : Int32)))))), 0))) := by rfl
set_option maxRecDepth 100000 in
theorem b_X8_move_10 : (fun (v1 : Int32) (v2 : Int32) (v3 : Int32) (M : Mem) => run C_X8_move 9 (62, [some (.ref 19), some (.int v1), some (.int v2), some (.int v3)], [], (sI M 19 15 (if (d_X8_isSet v1 M) = 0 then (1 : Int32) else (if (d_X8_isElement v3 M) = 0 then (1 : Int32) else (if (d_X8_isIn v2 (-100 : Int32) (100 : Int32)) = 0 then (2 : Int32) else (if (M.1 19 2) = (30 : Int32) then (3 : Int32) else (0 : Int32)))))), 0)) = (fun (v1 : Int32) (v2 : Int32) (v3 : Int32) (M : Mem) => some (.inl (73, [some (.ref 19), some (.int v1), some (.int v2), some (.int v3)], [.int v1, .ref 20, .int v2, .long (jshl (1 : Int64) v3), .ref 19, .ref 19], (sI M 19 15 (if (d_X8_isSet v1 M) = 0 then (1 : Int32) else (if (d_X8_isElement v3 M) = 0 then (1 : Int32) else (if (d_X8_isIn v2 (-100 : Int32) (100 : Int32)) = 0 then (2 : Int32) else (if (M.1 19 2) = (30 : Int32) then (3 : Int32) else (0 : Int32)))))), 0))) := by rfl
set_option maxRecDepth 100000 in
theorem b_X8_move_11 : (fun (v1 : Int32) (v2 : Int32) (v3 : Int32) (M : Mem) => stp C_X8_move (73, [some (.ref 19), some (.int v1), some (.int v2), some (.int v3)], [.int v1, .ref 20, .int v2, .long (jshl (1 : Int64) v3), .ref 19, .ref 19], (sI M 19 15 (if (d_X8_isSet v1 M) = 0 then (1 : Int32) else (if (d_X8_isElement v3 M) = 0 then (1 : Int32) else (if (d_X8_isIn v2 (-100 : Int32) (100 : Int32)) = 0 then (2 : Int32) else (if (M.1 19 2) = (30 : Int32) then (3 : Int32) else (0 : Int32)))))), 0)) = (fun (v1 : Int32) (v2 : Int32) (v3 : Int32) (M : Mem) => (if inb v1 30 = true then some (.inl (74, [some (.ref 19), some (.int v1), some (.int v2), some (.int v3)], [.long (M.2 20 (ix v1)), .int v2, .long (jshl (1 : Int64) v3), .ref 19, .ref 19], (sI M 19 15 (if (d_X8_isSet v1 M) = 0 then (1 : Int32) else (if (d_X8_isElement v3 M) = 0 then (1 : Int32) else (if (d_X8_isIn v2 (-100 : Int32) (100 : Int32)) = 0 then (2 : Int32) else (if (M.1 19 2) = (30 : Int32) then (3 : Int32) else (0 : Int32)))))), 0)) else none)) := by rfl
set_option maxRecDepth 100000 in
theorem b_X8_move_12 : (fun (v1 : Int32) (v2 : Int32) (v3 : Int32) (M : Mem) => run C_X8_move 1 (74, [some (.ref 19), some (.int v1), some (.int v2), some (.int v3)], [.long (M.2 20 (ix v1)), .int v2, .long (jshl (1 : Int64) v3), .ref 19, .ref 19], (sI M 19 15 (if (d_X8_isSet v1 M) = 0 then (1 : Int32) else (if (d_X8_isElement v3 M) = 0 then (1 : Int32) else (if (d_X8_isIn v2 (-100 : Int32) (100 : Int32)) = 0 then (2 : Int32) else (if (M.1 19 2) = (30 : Int32) then (3 : Int32) else (0 : Int32)))))), 0)) = (fun (v1 : Int32) (v2 : Int32) (v3 : Int32) (M : Mem) => some (.inl (75, [some (.ref 19), some (.int v1), some (.int v2), some (.int v3)], [.int (0 : Int32), .long (M.2 20 (ix v1)), .int v2, .long (jshl (1 : Int64) v3), .ref 19, .ref 19], (sI M 19 15 (if (d_X8_isSet v1 M) = 0 then (1 : Int32) else (if (d_X8_isElement v3 M) = 0 then (1 : Int32) else (if (d_X8_isIn v2 (-100 : Int32) (100 : Int32)) = 0 then (2 : Int32) else (if (M.1 19 2) = (30 : Int32) then (3 : Int32) else (0 : Int32)))))), 0))) := by rfl
set_option maxRecDepth 100000 in
theorem b_X8_move_13 : (fun (v1 : Int32) (v2 : Int32) (v3 : Int32) (w3 : Int32) (M2 : Mem) => run C_X8_move 1 (81, [some (.ref 19), some (.int v1), some (.int v2), some (.int v3)], [.int w3], M2, 0)) = (fun (v1 : Int32) (v2 : Int32) (v3 : Int32) (w3 : Int32) (M2 : Mem) => some (.inr (.inl (some (.int w3)), M2, 0))) := by rfl
set_option maxRecDepth 100000 in
theorem b_X8_move_14 : (fun (v1 : Int32) (v2 : Int32) (v3 : Int32) (M : Mem) => run C_X8_move 2 (60, [some (.ref 19), some (.int v1), some (.int v2), some (.int v3)], [], (sI M 19 15 (if (d_X8_isSet v1 M) = 0 then (1 : Int32) else (if (d_X8_isElement v3 M) = 0 then (1 : Int32) else (if (d_X8_isIn v2 (-100 : Int32) (100 : Int32)) = 0 then (2 : Int32) else (if (M.1 19 2) = (30 : Int32) then (3 : Int32) else (0 : Int32)))))), 0)) = (fun (v1 : Int32) (v2 : Int32) (v3 : Int32) (M : Mem) => some (.inr (.inl (some (.int (0 : Int32))), (sI M 19 15 (if (d_X8_isSet v1 M) = 0 then (1 : Int32) else (if (d_X8_isElement v3 M) = 0 then (1 : Int32) else (if (d_X8_isIn v2 (-100 : Int32) (100 : Int32)) = 0 then (2 : Int32) else (if (M.1 19 2) = (30 : Int32) then (3 : Int32) else (0 : Int32)))))), 0))) := by rfl
def d_X8_move (v1 : Int32) (v2 : Int32) (v3 : Int32) (M : Mem) : Option (Res × Mem) := (if (if (d_X8_isSet v1 M) = 0 then (1 : Int32) else (if (d_X8_isElement v3 M) = 0 then (1 : Int32) else (if (d_X8_isIn v2 (-100 : Int32) (100 : Int32)) = 0 then (2 : Int32) else (if (M.1 19 2) = (30 : Int32) then (3 : Int32) else (0 : Int32))))) ≤ 0 then (if inb v1 30 = true then ((d_X8_allSums (jshl (1 : Int64) v3) v2 (M.2 20 (ix v1)) (0 : Int32) (sI M 19 15 (if (d_X8_isSet v1 M) = 0 then (1 : Int32) else (if (d_X8_isElement v3 M) = 0 then (1 : Int32) else (if (d_X8_isIn v2 (-100 : Int32) (100 : Int32)) = 0 then (2 : Int32) else (if (M.1 19 2) = (30 : Int32) then (3 : Int32) else (0 : Int32))))))).bind fun w1 => (onI (d_X8_enters w1 (sI M 19 15 (if (d_X8_isSet v1 M) = 0 then (1 : Int32) else (if (d_X8_isElement v3 M) = 0 then (1 : Int32) else (if (d_X8_isIn v2 (-100 : Int32) (100 : Int32)) = 0 then (2 : Int32) else (if (M.1 19 2) = (30 : Int32) then (3 : Int32) else (0 : Int32))))))) (fun w3 M2 => some (.inl (some (.int w3)), M2)) (fun r => some r))) else none) else some (.inl (some (.int (0 : Int32))), (sI M 19 15 (if (d_X8_isSet v1 M) = 0 then (1 : Int32) else (if (d_X8_isElement v3 M) = 0 then (1 : Int32) else (if (d_X8_isIn v2 (-100 : Int32) (100 : Int32)) = 0 then (2 : Int32) else (if (M.1 19 2) = (30 : Int32) then (3 : Int32) else (0 : Int32))))))))
set_option maxHeartbeats 2000000 in
theorem r_X8_move (v1 : Int32) (v2 : Int32) (v3 : Int32) (M : Mem) : RG C_X8_move (0, [some (.ref 19), some (.int v1), some (.int v2), some (.int v3)], [], M, 0) (d_X8_move v1 v2 v3 M) (fun r => .inr r) := by
  unfold d_X8_move
  refine RG.step (m_X8_move_3 v1 v2 v3 M) ?_
  refine RG.st 4 (congrFun (congrFun (congrFun (congrFun b_X8_move_9 v1) v2) v3) M) ?_
  refine RG.ite (fun h1 => RG.brT (q := 62) h1 rfl ?_) (fun h1 => RG.brF (q := 60) h1 rfl ?_)
  · refine RG.st 9 (congrFun (congrFun (congrFun (congrFun b_X8_move_10 v1) v2) v3) M) ?_
    refine RG.guard (fun h2 => RG.st 1 (stp_g h2 (congrFun (congrFun (congrFun (congrFun b_X8_move_11 v1) v2) v3) M)) ?_)
    refine RG.st 1 (congrFun (congrFun (congrFun (congrFun b_X8_move_12 v1) v2) v3) M) ?_
    refine RG.bind (fun w1 h3 => RG.st 1 (run_callV (v := some (.long w1)) rfl rfl rfl rfl rfl (bindL h3)) ?_)
    show RG C_X8_move (78, [some (.ref 19), some (.int v1), some (.int v2), some (.int v3)], [.long w1, .ref 19], (sI M 19 15 (if (d_X8_isSet v1 M) = 0 then (1 : Int32) else (if (d_X8_isElement v3 M) = 0 then (1 : Int32) else (if (d_X8_isIn v2 (-100 : Int32) (100 : Int32)) = 0 then (2 : Int32) else (if (M.1 19 2) = (30 : Int32) then (3 : Int32) else (0 : Int32)))))), 0) _ _
    refine RG.callI (fun w3 M2 h4 => RG.st 1 (run_callV (v := (some (.int w3))) rfl rfl rfl rfl rfl h4) ?_) (fun E M2 h4 => RG.fin rfl (Rend.run 1 (run_callVx rfl rfl rfl rfl rfl h4 rfl)))
    show RG C_X8_move (81, [some (.ref 19), some (.int v1), some (.int v2), some (.int v3)], [.int w3], M2, 0) _ _
    exact RG.fin rfl (Rend.run 1 (congrFun (congrFun (congrFun (congrFun (congrFun b_X8_move_13 v1) v2) v3) w3) M2))
  · exact RG.fin rfl (Rend.run 2 (congrFun (congrFun (congrFun (congrFun b_X8_move_14 v1) v2) v3) M))
def fn_X8_move : Fn := fun av M => match av with
  | [.ref r0, .int v1, .int v2, .int v3] => bif Nat.beq r0 19 then (d_X8_move v1 v2 v3 M) else (none)
  | _ => none
theorem cfg_X8_move : CfgOK RX8 cX8_move (C_X8_move) 4 := ⟨tk_X8_move, csF_nd, flk_X8, (List.forall_mem_cons.mpr ⟨Or.inr ⟨yX8_isIn, cX8_isIn, 3, (some .boolean), none, 1, ok_X8_isIn, by decide, by decide, w_code_SumsetryModel_isIn__III_Z, w_initialized_SumsetryModel, ⟨by decide, by decide⟩, Or.inl ⟨rfl, show (parseMethodDescriptor yX8_isIn.desc).map (fun d => d.parameters.length) = some 3 from by decide +kernel, w_methodLink_SumsetryModel_53, w_static_SumsetryModel_isIn__III_Z⟩⟩,
    List.forall_mem_cons.mpr ⟨Or.inr ⟨yX8_isElement, cX8_isElement, 2, (some .boolean), none, 2, ok_X8_isElement, by decide, by decide, w_code_SumsetryModel_isElement__I_Z, w_initialized_SumsetryModel, ⟨by decide, by decide⟩, Or.inr (Or.inr ⟨rfl, rfl, show (parseMethodDescriptor yX8_isElement.desc).map (fun d => d.parameters.length + 1) = some 2 from by decide +kernel, w_methodLink_SumsetryModel_78, w_instanceMethod_SumsetryModel_isElement__I_Z, w_selects_SumsetryModel_isElement__I_Z, ⟨_, rfl, rfl⟩⟩)⟩,
    List.forall_mem_cons.mpr ⟨Or.inr ⟨yX8_enters, cX8_enters, 3, (some .int), none, 1, ok_X8_enters, by decide, by decide, w_code_SumsetryModel_enters__J_I, w_initialized_SumsetryModel, ⟨by decide, by decide⟩, Or.inr (Or.inr ⟨rfl, rfl, show (parseMethodDescriptor yX8_enters.desc).map (fun d => d.parameters.length + 1) = some 2 from by decide +kernel, w_methodLink_SumsetryModel_88, w_instanceMethod_SumsetryModel_enters__J_I, w_selects_SumsetryModel_enters__J_I, ⟨_, rfl, rfl⟩⟩)⟩,
    List.forall_mem_cons.mpr ⟨Or.inr ⟨yX8_allSums, cX8_allSums, 12, (some .long), none, 3, ok_X8_allSums, by decide, by decide, w_code_SumsetryModel_allSums__JIJZ_J, w_initialized_SumsetryModel, ⟨by decide, by decide⟩, Or.inr (Or.inr ⟨rfl, rfl, show (parseMethodDescriptor yX8_allSums.desc).map (fun d => d.parameters.length + 1) = some 5 from by decide +kernel, w_methodLink_SumsetryModel_92, w_instanceMethod_SumsetryModel_allSums__JIJZ_J, w_selects_SumsetryModel_allSums__JIJZ_J, ⟨_, rfl, rfl⟩⟩)⟩,
    List.forall_mem_cons.mpr ⟨Or.inr ⟨yX8_isSet, cX8_isSet, 2, (some .boolean), none, 2, ok_X8_isSet, by decide, by decide, w_code_SumsetryModel_isSet__I_Z, w_initialized_SumsetryModel, ⟨by decide, by decide⟩, Or.inr (Or.inr ⟨rfl, rfl, show (parseMethodDescriptor yX8_isSet.desc).map (fun d => d.parameters.length + 1) = some 2 from by decide +kernel, w_methodLink_SumsetryModel_96, w_instanceMethod_SumsetryModel_isSet__I_Z, w_selects_SumsetryModel_isSet__I_Z, ⟨_, rfl, rfl⟩⟩)⟩, fun _ h => absurd h List.not_mem_nil⟩⟩⟩⟩⟩), ink_X8, lgk_X8, fun e h => absurd h List.not_mem_nil, (fun h hh => absurd hh List.not_mem_nil)⟩
theorem ok_X8_move : OkM csF yX8_move (Cond.code yX8_move cX8_move 4 (some .int)) 4 0 fn_X8_move :=
  OkM_of (own := RX8) (C := C_X8_move) (by decide +kernel) rfl (cfg_X8_move) rfl rfl rfl rfl (by
    intro av M o M' h
    unfold fn_X8_move at h
    split at h
    · rename_i r0 v1 v2 v3
      rcases bif_cs h with ⟨hb, h⟩ | ⟨-, h⟩
      · skip
        have hr0 := hb
        obtain rfl := Nat.eq_of_beq_eq_true hr0
        exact ⟨rfl, Nat.le_of_ble_eq_true rfl, (r_X8_move v1 v2 v3 M) (o, M') h⟩
      · cases h
    · cases h)
def t_X8_elements : List (Nat × Instr × Nat) := [(0, .aload_n 0, 1), (1, .aload_n 0, 1), (2, .iload_n 1, 1), (3, .invokevirtual 96, 3), (6, .ifCond .eq 7, 3), (9, .iconst 0, 1), (10, .goto 4, 3), (13, .iconst 1, 1), (14, .putfield 46, 3), (17, .aload_n 0, 1), (18, .getfield 46, 3), (21, .ifCond .le 7, 3), (24, .lconst 0, 1), (25, .goto 9, 3), (28, .aload_n 0, 1), (29, .getfield 16, 3), (32, .iload_n 1, 1), (33, .laload, 1), (34, .lreturn, 1)]
theorem tk_X8_elements : ∀ x ∈ t_X8_elements, decode cX8_elements x.1 = .ok x.2 := by decide +kernel
def C_X8_elements : Cfg := (t_X8_elements, csF, fl_X8, [(96, 2, 6, 2, 0, fn_X8_isSet)], in_X8, lg_X8, [], [], none, (some .long), 0)
set_option maxRecDepth 100000 in
theorem b_X8_elements_0 : (fun (v1 : Int32) (M : Mem) => run C_X8_elements 5 (0, [some (.ref 19), some (.int v1)], [], M, 0)) = (fun (v1 : Int32) (M : Mem) => some (.inl ((br (decide ((d_X8_isSet v1 M) = 0)) 6 3 (7)), [some (.ref 19), some (.int v1)], [.ref 19], M, 0))) := by rfl
set_option maxRecDepth 100000 in
theorem b_X8_elements_1 : (fun (v1 : Int32) (M : Mem) => run C_X8_elements 1 (13, [some (.ref 19), some (.int v1)], [.ref 19], M, 0)) = (fun (v1 : Int32) (M : Mem) => some (.inl (14, [some (.ref 19), some (.int v1)], [.int (1 : Int32), .ref 19], M, 0))) := by rfl
set_option maxRecDepth 100000 in
theorem b_X8_elements_2 : (fun (v1 : Int32) (M : Mem) => run C_X8_elements 2 (9, [some (.ref 19), some (.int v1)], [.ref 19], M, 0)) = (fun (v1 : Int32) (M : Mem) => some (.inl (14, [some (.ref 19), some (.int v1)], [.int (0 : Int32), .ref 19], M, 0))) := by rfl
theorem m_X8_elements_0 (v1 : Int32) (M : Mem) : Rto C_X8_elements (0, [some (.ref 19), some (.int v1)], [], M, 0) (14, [some (.ref 19), some (.int v1)], [.int (if (d_X8_isSet v1 M) = 0 then (1 : Int32) else (0 : Int32)), .ref 19], M, 0) := by
  refine Rto.trans (Rto.run 5 (congrFun (congrFun b_X8_elements_0 v1) M)) ?_
  by_cases h : (d_X8_isSet v1 M) = 0
  · refine Rto.trans (Rto.brT (q := 13) h rfl) ?_
    refine Rto.trans (Rto.run 1 (congrFun (congrFun b_X8_elements_1 v1) M)) ?_
    exact Rto.eq (by first | (simp only [if_pos h]; done) | rfl | exact absurd rfl h | (simp; done))
  · refine Rto.trans (Rto.brF (q := 9) h rfl) ?_
    refine Rto.trans (Rto.run 2 (congrFun (congrFun b_X8_elements_2 v1) M)) ?_
    exact Rto.eq (by first | (simp only [if_neg h]; done) | rfl | exact absurd rfl h | (simp; done))
set_option maxRecDepth 100000 in
theorem b_X8_elements_3 : (fun (v1 : Int32) (M : Mem) => run C_X8_elements 4 (14, [some (.ref 19), some (.int v1)], [.int (if (d_X8_isSet v1 M) = 0 then (1 : Int32) else (0 : Int32)), .ref 19], M, 0)) = (fun (v1 : Int32) (M : Mem) => some (.inl ((br (decide ((if (d_X8_isSet v1 M) = 0 then (1 : Int32) else (0 : Int32)) ≤ 0)) 21 3 (7)), [some (.ref 19), some (.int v1)], [], (sI M 19 15 (if (d_X8_isSet v1 M) = 0 then (1 : Int32) else (0 : Int32))), 0))) := by rfl
set_option maxRecDepth 100000 in
theorem b_X8_elements_4 : (fun (v1 : Int32) (M : Mem) => run C_X8_elements 3 (28, [some (.ref 19), some (.int v1)], [], (sI M 19 15 (if (d_X8_isSet v1 M) = 0 then (1 : Int32) else (0 : Int32))), 0)) = (fun (v1 : Int32) (M : Mem) => some (.inl (33, [some (.ref 19), some (.int v1)], [.int v1, .ref 20], (sI M 19 15 (if (d_X8_isSet v1 M) = 0 then (1 : Int32) else (0 : Int32))), 0))) := by rfl
set_option maxRecDepth 100000 in
theorem b_X8_elements_5 : (fun (v1 : Int32) (M : Mem) => stp C_X8_elements (33, [some (.ref 19), some (.int v1)], [.int v1, .ref 20], (sI M 19 15 (if (d_X8_isSet v1 M) = 0 then (1 : Int32) else (0 : Int32))), 0)) = (fun (v1 : Int32) (M : Mem) => (if inb v1 30 = true then some (.inl (34, [some (.ref 19), some (.int v1)], [.long (M.2 20 (ix v1))], (sI M 19 15 (if (d_X8_isSet v1 M) = 0 then (1 : Int32) else (0 : Int32))), 0)) else none)) := by rfl
set_option maxRecDepth 100000 in
theorem b_X8_elements_6 : (fun (v1 : Int32) (M : Mem) => run C_X8_elements 1 (34, [some (.ref 19), some (.int v1)], [.long (M.2 20 (ix v1))], (sI M 19 15 (if (d_X8_isSet v1 M) = 0 then (1 : Int32) else (0 : Int32))), 0)) = (fun (v1 : Int32) (M : Mem) => some (.inr (.inl (some (.long (M.2 20 (ix v1)))), (sI M 19 15 (if (d_X8_isSet v1 M) = 0 then (1 : Int32) else (0 : Int32))), 0))) := by rfl
set_option maxRecDepth 100000 in
theorem b_X8_elements_7 : (fun (v1 : Int32) (M : Mem) => run C_X8_elements 3 (24, [some (.ref 19), some (.int v1)], [], (sI M 19 15 (if (d_X8_isSet v1 M) = 0 then (1 : Int32) else (0 : Int32))), 0)) = (fun (v1 : Int32) (M : Mem) => some (.inr (.inl (some (.long (0 : Int64))), (sI M 19 15 (if (d_X8_isSet v1 M) = 0 then (1 : Int32) else (0 : Int32))), 0))) := by rfl
def d_X8_elements (v1 : Int32) (M : Mem) : Option (Res × Mem) := (if (if (d_X8_isSet v1 M) = 0 then (1 : Int32) else (0 : Int32)) ≤ 0 then (if inb v1 30 = true then some (.inl (some (.long (M.2 20 (ix v1)))), (sI M 19 15 (if (d_X8_isSet v1 M) = 0 then (1 : Int32) else (0 : Int32)))) else none) else some (.inl (some (.long (0 : Int64))), (sI M 19 15 (if (d_X8_isSet v1 M) = 0 then (1 : Int32) else (0 : Int32)))))
set_option maxHeartbeats 2000000 in
theorem r_X8_elements (v1 : Int32) (M : Mem) : RG C_X8_elements (0, [some (.ref 19), some (.int v1)], [], M, 0) (d_X8_elements v1 M) (fun r => .inr r) := by
  unfold d_X8_elements
  refine RG.step (m_X8_elements_0 v1 M) ?_
  refine RG.st 4 (congrFun (congrFun b_X8_elements_3 v1) M) ?_
  refine RG.ite (fun h1 => RG.brT (q := 28) h1 rfl ?_) (fun h1 => RG.brF (q := 24) h1 rfl ?_)
  · refine RG.st 3 (congrFun (congrFun b_X8_elements_4 v1) M) ?_
    refine RG.guard (fun h2 => RG.st 1 (stp_g h2 (congrFun (congrFun b_X8_elements_5 v1) M)) ?_)
    exact RG.fin rfl (Rend.run 1 (congrFun (congrFun b_X8_elements_6 v1) M))
  · exact RG.fin rfl (Rend.run 3 (congrFun (congrFun b_X8_elements_7 v1) M))
def fn_X8_elements : Fn := fun av M => match av with
  | [.ref r0, .int v1] => bif Nat.beq r0 19 then (d_X8_elements v1 M) else (none)
  | _ => none
theorem cfg_X8_elements : CfgOK RX8 cX8_elements (C_X8_elements) 3 := ⟨tk_X8_elements, csF_nd, flk_X8, (List.forall_mem_cons.mpr ⟨Or.inr ⟨yX8_isSet, cX8_isSet, 2, (some .boolean), none, 2, ok_X8_isSet, by decide, by decide, w_code_SumsetryModel_isSet__I_Z, w_initialized_SumsetryModel, ⟨by decide, by decide⟩, Or.inr (Or.inr ⟨rfl, rfl, show (parseMethodDescriptor yX8_isSet.desc).map (fun d => d.parameters.length + 1) = some 2 from by decide +kernel, w_methodLink_SumsetryModel_96, w_instanceMethod_SumsetryModel_isSet__I_Z, w_selects_SumsetryModel_isSet__I_Z, ⟨_, rfl, rfl⟩⟩)⟩, fun _ h => absurd h List.not_mem_nil⟩), ink_X8, lgk_X8, fun e h => absurd h List.not_mem_nil, (fun h hh => absurd hh List.not_mem_nil)⟩
theorem ok_X8_elements : OkM csF yX8_elements (Cond.code yX8_elements cX8_elements 2 (some .long)) 3 0 fn_X8_elements :=
  OkM_of (own := RX8) (C := C_X8_elements) (by decide +kernel) rfl (cfg_X8_elements) rfl rfl rfl rfl (by
    intro av M o M' h
    unfold fn_X8_elements at h
    split at h
    · rename_i r0 v1
      rcases bif_cs h with ⟨hb, h⟩ | ⟨-, h⟩
      · skip
        have hr0 := hb
        obtain rfl := Nat.eq_of_beq_eq_true hr0
        exact ⟨rfl, Nat.le_of_ble_eq_true rfl, (r_X8_elements v1 M) (o, M') h⟩
      · cases h
    · cases h)
def t_X8_waysTo : List (Nat × Instr × Nat) := [(0, .iconst 0, 1), (1, .istore 7, 2), (3, .iconst 0, 1), (4, .istore 8, 2), (6, .iload 8, 2), (8, .aload_n 0, 1), (9, .invokevirtual 49, 3), (12, .if_icmp .ge 70, 3), (15, .iconst 0, 1), (16, .istore 9, 2), (18, .iload 9, 2), (20, .aload_n 0, 1), (21, .invokevirtual 49, 3), (24, .if_icmp .ge 52, 3), (27, .iload 7, 2), (29, .lload_n 1, 1), (30, .iload 8, 2), (32, .invokestatic 60, 3), (35, .ifCond .eq 31, 3), (38, .lload 4, 2), (40, .iload 9, 2), (42, .invokestatic 60, 3), (45, .ifCond .eq 21, 3), (48, .aload_n 0, 1), (49, .iload 8, 2), (51, .iload_n 3, 1), (52, .iload 9, 2), (54, .invokevirtual 68, 3), (57, .iload 6, 2), (59, .if_icmp .ne 7, 3), (62, .iconst 1, 1), (63, .goto 4, 3), (66, .iconst 0, 1), (67, .iadd, 1), (68, .istore 7, 2), (70, .iinc 9 1, 3), (73, .goto (-55), 3), (76, .iinc 8 1, 3), (79, .goto (-73), 3), (82, .iload 7, 2), (84, .ireturn, 1)]
theorem tk_X8_waysTo : ∀ x ∈ t_X8_waysTo, decode cX8_waysTo x.1 = .ok x.2 := by decide +kernel
def C_X8_waysTo : Cfg := (t_X8_waysTo, csF, fl_X8, [(49, 2, 6, 1, 0, fn_X8_size), (60, 0, 6, 2, 0, fn_X8_has), (68, 2, 6, 4, 0, fn_X8_plus)], in_X8, lg_X8, [], [], none, (some .int), 0)
set_option maxRecDepth 100000 in
theorem b_X8_waysTo_0 : (fun (v1 : Int64) (v3 : Int32) (v4 : Int64) (v6 : Int32) (M : Mem) => run C_X8_waysTo 4 (0, [some (.ref 19), some (.long v1), none, some (.int v3), some (.long v4), none, some (.int v6), none, none, none], [], M, 0)) = (fun (v1 : Int64) (v3 : Int32) (v4 : Int64) (v6 : Int32) (M : Mem) => some (.inl (6, [some (.ref 19), some (.long v1), none, some (.int v3), some (.long v4), none, some (.int v6), some (.int (0 : Int32)), some (.int (0 : Int32)), none], [], M, 0))) := by rfl
set_option maxRecDepth 100000 in
theorem b_X8_waysTo_1 : (fun (v1 : Int64) (v3 : Int32) (v4 : Int64) (v6 : Int32) (M : Mem) (a1 : (Int32 × Int32)) => run C_X8_waysTo 4 (6, [some (.ref 19), some (.long v1), none, some (.int v3), some (.long v4), none, some (.int v6), some (.int a1.1), some (.int a1.2), none], [], M, 0)) = (fun (v1 : Int64) (v3 : Int32) (v4 : Int64) (v6 : Int32) (M : Mem) (a1 : (Int32 × Int32)) => some (.inl ((br (!decide (a1.2 < (d_X8_size M))) 12 3 (70)), [some (.ref 19), some (.long v1), none, some (.int v3), some (.long v4), none, some (.int v6), some (.int a1.1), some (.int a1.2), none], [], M, 0))) := by rfl
set_option maxRecDepth 100000 in
theorem b_X8_waysTo_2 : (fun (v1 : Int64) (v3 : Int32) (v4 : Int64) (v6 : Int32) (M : Mem) (a1 : (Int32 × Int32)) => run C_X8_waysTo 2 (15, [some (.ref 19), some (.long v1), none, some (.int v3), some (.long v4), none, some (.int v6), some (.int a1.1), some (.int a1.2), none], [], M, 0)) = (fun (v1 : Int64) (v3 : Int32) (v4 : Int64) (v6 : Int32) (M : Mem) (a1 : (Int32 × Int32)) => some (.inl (18, [some (.ref 19), some (.long v1), none, some (.int v3), some (.long v4), none, some (.int v6), some (.int a1.1), some (.int a1.2), some (.int (0 : Int32))], [], M, 0))) := by rfl
set_option maxRecDepth 100000 in
theorem b_X8_waysTo_3 : (fun (v1 : Int64) (v3 : Int32) (v4 : Int64) (v6 : Int32) (M : Mem) (a1 : (Int32 × Int32)) (a2 : (Int32 × Int32)) => run C_X8_waysTo 4 (18, [some (.ref 19), some (.long v1), none, some (.int v3), some (.long v4), none, some (.int v6), some (.int a2.1), some (.int a1.2), some (.int a2.2)], [], M, 0)) = (fun (v1 : Int64) (v3 : Int32) (v4 : Int64) (v6 : Int32) (M : Mem) (a1 : (Int32 × Int32)) (a2 : (Int32 × Int32)) => some (.inl ((br (!decide (a2.2 < (d_X8_size M))) 24 3 (52)), [some (.ref 19), some (.long v1), none, some (.int v3), some (.long v4), none, some (.int v6), some (.int a2.1), some (.int a1.2), some (.int a2.2)], [], M, 0))) := by rfl
set_option maxRecDepth 100000 in
theorem b_X8_waysTo_4 : (fun (v1 : Int64) (v3 : Int32) (v4 : Int64) (v6 : Int32) (M : Mem) (a1 : (Int32 × Int32)) (a2 : (Int32 × Int32)) => run C_X8_waysTo 5 (27, [some (.ref 19), some (.long v1), none, some (.int v3), some (.long v4), none, some (.int v6), some (.int a2.1), some (.int a1.2), some (.int a2.2)], [], M, 0)) = (fun (v1 : Int64) (v3 : Int32) (v4 : Int64) (v6 : Int32) (M : Mem) (a1 : (Int32 × Int32)) (a2 : (Int32 × Int32)) => some (.inl ((br (decide ((d_X8_has v1 a1.2) = 0)) 35 3 (31)), [some (.ref 19), some (.long v1), none, some (.int v3), some (.long v4), none, some (.int v6), some (.int a2.1), some (.int a1.2), some (.int a2.2)], [.int a2.1], M, 0))) := by rfl
set_option maxRecDepth 100000 in
theorem b_X8_waysTo_5 : (fun (v1 : Int64) (v3 : Int32) (v4 : Int64) (v6 : Int32) (M : Mem) (a1 : (Int32 × Int32)) (a2 : (Int32 × Int32)) => run C_X8_waysTo 5 (66, [some (.ref 19), some (.long v1), none, some (.int v3), some (.long v4), none, some (.int v6), some (.int a2.1), some (.int a1.2), some (.int a2.2)], [.int a2.1], M, 0)) = (fun (v1 : Int64) (v3 : Int32) (v4 : Int64) (v6 : Int32) (M : Mem) (a1 : (Int32 × Int32)) (a2 : (Int32 × Int32)) => some (.inl (18, [some (.ref 19), some (.long v1), none, some (.int v3), some (.long v4), none, some (.int v6), some (.int (a2.1 + (0 : Int32))), some (.int a1.2), some (.int (a2.2 + (1 : Int32)))], [], M, 0))) := by rfl
set_option maxRecDepth 100000 in
theorem b_X8_waysTo_6 : (fun (v1 : Int64) (v3 : Int32) (v4 : Int64) (v6 : Int32) (M : Mem) (a1 : (Int32 × Int32)) (a2 : (Int32 × Int32)) => run C_X8_waysTo 4 (38, [some (.ref 19), some (.long v1), none, some (.int v3), some (.long v4), none, some (.int v6), some (.int a2.1), some (.int a1.2), some (.int a2.2)], [.int a2.1], M, 0)) = (fun (v1 : Int64) (v3 : Int32) (v4 : Int64) (v6 : Int32) (M : Mem) (a1 : (Int32 × Int32)) (a2 : (Int32 × Int32)) => some (.inl ((br (decide ((d_X8_has v4 a2.2) = 0)) 45 3 (21)), [some (.ref 19), some (.long v1), none, some (.int v3), some (.long v4), none, some (.int v6), some (.int a2.1), some (.int a1.2), some (.int a2.2)], [.int a2.1], M, 0))) := by rfl
set_option maxRecDepth 100000 in
theorem b_X8_waysTo_7 : (fun (v1 : Int64) (v3 : Int32) (v4 : Int64) (v6 : Int32) (M : Mem) (a1 : (Int32 × Int32)) (a2 : (Int32 × Int32)) => run C_X8_waysTo 5 (66, [some (.ref 19), some (.long v1), none, some (.int v3), some (.long v4), none, some (.int v6), some (.int a2.1), some (.int a1.2), some (.int a2.2)], [.int a2.1], M, 0)) = (fun (v1 : Int64) (v3 : Int32) (v4 : Int64) (v6 : Int32) (M : Mem) (a1 : (Int32 × Int32)) (a2 : (Int32 × Int32)) => some (.inl (18, [some (.ref 19), some (.long v1), none, some (.int v3), some (.long v4), none, some (.int v6), some (.int (a2.1 + (0 : Int32))), some (.int a1.2), some (.int (a2.2 + (1 : Int32)))], [], M, 0))) := by rfl
set_option maxRecDepth 100000 in
theorem b_X8_waysTo_8 : (fun (v1 : Int64) (v3 : Int32) (v4 : Int64) (v6 : Int32) (M : Mem) (a1 : (Int32 × Int32)) (a2 : (Int32 × Int32)) => run C_X8_waysTo 4 (48, [some (.ref 19), some (.long v1), none, some (.int v3), some (.long v4), none, some (.int v6), some (.int a2.1), some (.int a1.2), some (.int a2.2)], [.int a2.1], M, 0)) = (fun (v1 : Int64) (v3 : Int32) (v4 : Int64) (v6 : Int32) (M : Mem) (a1 : (Int32 × Int32)) (a2 : (Int32 × Int32)) => some (.inl (54, [some (.ref 19), some (.long v1), none, some (.int v3), some (.long v4), none, some (.int v6), some (.int a2.1), some (.int a1.2), some (.int a2.2)], [.int a2.2, .int v3, .int a1.2, .ref 19, .int a2.1], M, 0))) := by rfl
set_option maxRecDepth 100000 in
theorem b_X8_waysTo_9 : (fun (v1 : Int64) (v3 : Int32) (v4 : Int64) (v6 : Int32) (M : Mem) (a1 : (Int32 × Int32)) (a2 : (Int32 × Int32)) (w1 : Int32) => run C_X8_waysTo 2 (57, [some (.ref 19), some (.long v1), none, some (.int v3), some (.long v4), none, some (.int v6), some (.int a2.1), some (.int a1.2), some (.int a2.2)], [.int w1, .int a2.1], M, 0)) = (fun (v1 : Int64) (v3 : Int32) (v4 : Int64) (v6 : Int32) (M : Mem) (a1 : (Int32 × Int32)) (a2 : (Int32 × Int32)) (w1 : Int32) => some (.inl ((br (!decide (w1 = v6)) 59 3 (7)), [some (.ref 19), some (.long v1), none, some (.int v3), some (.long v4), none, some (.int v6), some (.int a2.1), some (.int a1.2), some (.int a2.2)], [.int a2.1], M, 0))) := by rfl
set_option maxRecDepth 100000 in
theorem b_X8_waysTo_10 : (fun (v1 : Int64) (v3 : Int32) (v4 : Int64) (v6 : Int32) (M : Mem) (a1 : (Int32 × Int32)) (a2 : (Int32 × Int32)) => run C_X8_waysTo 1 (66, [some (.ref 19), some (.long v1), none, some (.int v3), some (.long v4), none, some (.int v6), some (.int a2.1), some (.int a1.2), some (.int a2.2)], [.int a2.1], M, 0)) = (fun (v1 : Int64) (v3 : Int32) (v4 : Int64) (v6 : Int32) (M : Mem) (a1 : (Int32 × Int32)) (a2 : (Int32 × Int32)) => some (.inl (67, [some (.ref 19), some (.long v1), none, some (.int v3), some (.long v4), none, some (.int v6), some (.int a2.1), some (.int a1.2), some (.int a2.2)], [.int (0 : Int32), .int a2.1], M, 0))) := by rfl
set_option maxRecDepth 100000 in
theorem b_X8_waysTo_11 : (fun (v1 : Int64) (v3 : Int32) (v4 : Int64) (v6 : Int32) (M : Mem) (a1 : (Int32 × Int32)) (a2 : (Int32 × Int32)) => run C_X8_waysTo 2 (62, [some (.ref 19), some (.long v1), none, some (.int v3), some (.long v4), none, some (.int v6), some (.int a2.1), some (.int a1.2), some (.int a2.2)], [.int a2.1], M, 0)) = (fun (v1 : Int64) (v3 : Int32) (v4 : Int64) (v6 : Int32) (M : Mem) (a1 : (Int32 × Int32)) (a2 : (Int32 × Int32)) => some (.inl (67, [some (.ref 19), some (.long v1), none, some (.int v3), some (.long v4), none, some (.int v6), some (.int a2.1), some (.int a1.2), some (.int a2.2)], [.int (1 : Int32), .int a2.1], M, 0))) := by rfl
theorem m_X8_waysTo_0 (v1 : Int64) (v3 : Int32) (v4 : Int64) (v6 : Int32) (M : Mem) (a1 : (Int32 × Int32)) (a2 : (Int32 × Int32)) (w1 : Int32) : Rto C_X8_waysTo (57, [some (.ref 19), some (.long v1), none, some (.int v3), some (.long v4), none, some (.int v6), some (.int a2.1), some (.int a1.2), some (.int a2.2)], [.int w1, .int a2.1], M, 0) (67, [some (.ref 19), some (.long v1), none, some (.int v3), some (.long v4), none, some (.int v6), some (.int a2.1), some (.int a1.2), some (.int a2.2)], [.int (if w1 = v6 then (1 : Int32) else (0 : Int32)), .int a2.1], M, 0) := by
  refine Rto.trans (Rto.run 2 (congrFun (congrFun (congrFun (congrFun (congrFun (congrFun (congrFun (congrFun b_X8_waysTo_9 v1) v3) v4) v6) M) a1) a2) w1)) ?_
  by_cases h : w1 = v6
  · refine Rto.trans (Rto.brNF (q := 62) h rfl) ?_
    refine Rto.trans (Rto.run 2 (congrFun (congrFun (congrFun (congrFun (congrFun (congrFun (congrFun b_X8_waysTo_11 v1) v3) v4) v6) M) a1) a2)) ?_
    exact Rto.eq (by first | (simp only [if_pos h]; done) | rfl | exact absurd rfl h | (simp; done))
  · refine Rto.trans (Rto.brNT (q := 66) h rfl) ?_
    refine Rto.trans (Rto.run 1 (congrFun (congrFun (congrFun (congrFun (congrFun (congrFun (congrFun b_X8_waysTo_10 v1) v3) v4) v6) M) a1) a2)) ?_
    exact Rto.eq (by first | (simp only [if_neg h]; done) | rfl | exact absurd rfl h | (simp; done))
set_option maxRecDepth 100000 in
theorem b_X8_waysTo_12 : (fun (v1 : Int64) (v3 : Int32) (v4 : Int64) (v6 : Int32) (M : Mem) (a1 : (Int32 × Int32)) (a2 : (Int32 × Int32)) (w1 : Int32) => run C_X8_waysTo 4 (67, [some (.ref 19), some (.long v1), none, some (.int v3), some (.long v4), none, some (.int v6), some (.int a2.1), some (.int a1.2), some (.int a2.2)], [.int (if w1 = v6 then (1 : Int32) else (0 : Int32)), .int a2.1], M, 0)) = (fun (v1 : Int64) (v3 : Int32) (v4 : Int64) (v6 : Int32) (M : Mem) (a1 : (Int32 × Int32)) (a2 : (Int32 × Int32)) (w1 : Int32) => some (.inl (18, [some (.ref 19), some (.long v1), none, some (.int v3), some (.long v4), none, some (.int v6), some (.int (a2.1 + (if w1 = v6 then (1 : Int32) else (0 : Int32)))), some (.int a1.2), some (.int (a2.2 + (1 : Int32)))], [], M, 0))) := by rfl
def g_X8_waysTo_2 (v1 : Int64) (v3 : Int32) (v4 : Int64) (v6 : Int32) (M : Mem) (a1 : (Int32 × Int32)) : Int32 × Int32 → Option ((Int32 × Int32) ⊕ ((Int32 × Int32) ⊕ Int32)) := fun (a2 : Int32 × Int32) => (if a2.2 < (d_X8_size M) then (if (d_X8_has v1 a1.2) = 0 then some (.inl ((a2.1 + (0 : Int32)), (a2.2 + (1 : Int32)))) else (if (d_X8_has v4 a2.2) = 0 then some (.inl ((a2.1 + (0 : Int32)), (a2.2 + (1 : Int32)))) else ((d_X8_plus a1.2 v3 a2.2 M).bind fun w1 => some (.inl ((a2.1 + (if w1 = v6 then (1 : Int32) else (0 : Int32))), (a2.2 + (1 : Int32))))))) else some (.inr (.inl (a2.1, a2.2))))
set_option maxHeartbeats 2000000 in
theorem l_X8_waysTo_2 (v1 : Int64) (v3 : Int32) (v4 : Int64) (v6 : Int32) (M : Mem) (a1 : (Int32 × Int32)) : ∀ a2 : Int32 × Int32, RG C_X8_waysTo ((fun (a2 : Int32 × Int32) => (18, [some (.ref 19), some (.long v1), none, some (.int v3), some (.long v4), none, some (.int v6), some (.int a2.1), some (.int a1.2), some (.int a2.2)], [], M, 0)) a2) (g_X8_waysTo_2 v1 v3 v4 v6 M a1 a2) (lpP (fun (a2 : Int32 × Int32) => (18, [some (.ref 19), some (.long v1), none, some (.int v3), some (.long v4), none, some (.int v6), some (.int a2.1), some (.int a1.2), some (.int a2.2)], [], M, 0)) (fun (a2 : Int32 × Int32) => (76, [some (.ref 19), some (.long v1), none, some (.int v3), some (.long v4), none, some (.int v6), some (.int a2.1), some (.int a1.2), some (.int a2.2)], [], M, 0)) (fun (v : Int32) => (.inl (some (.int v)), M))) := by
  intro a2
  unfold g_X8_waysTo_2
  show RG C_X8_waysTo (18, [some (.ref 19), some (.long v1), none, some (.int v3), some (.long v4), none, some (.int v6), some (.int a2.1), some (.int a1.2), some (.int a2.2)], [], M, 0) _ _
  refine RG.st 4 (congrFun (congrFun (congrFun (congrFun (congrFun (congrFun (congrFun b_X8_waysTo_3 v1) v3) v4) v6) M) a1) a2) ?_
  refine RG.ite (fun h2 => RG.brNF (q := 27) h2 rfl ?_) (fun h2 => RG.brNT (q := 76) h2 rfl ?_)
  · refine RG.st 5 (congrFun (congrFun (congrFun (congrFun (congrFun (congrFun (congrFun b_X8_waysTo_4 v1) v3) v4) v6) M) a1) a2) ?_
    refine RG.ite (fun h3 => RG.brT (q := 66) h3 rfl ?_) (fun h3 => RG.brF (q := 38) h3 rfl ?_)
    · refine RG.st 5 (congrFun (congrFun (congrFun (congrFun (congrFun (congrFun (congrFun b_X8_waysTo_5 v1) v3) v4) v6) M) a1) a2) ?_
      exact RG.to rfl (Rto.refl _)
    · refine RG.st 4 (congrFun (congrFun (congrFun (congrFun (congrFun (congrFun (congrFun b_X8_waysTo_6 v1) v3) v4) v6) M) a1) a2) ?_
      refine RG.ite (fun h4 => RG.brT (q := 66) h4 rfl ?_) (fun h4 => RG.brF (q := 48) h4 rfl ?_)
      · refine RG.st 5 (congrFun (congrFun (congrFun (congrFun (congrFun (congrFun (congrFun b_X8_waysTo_7 v1) v3) v4) v6) M) a1) a2) ?_
        exact RG.to rfl (Rto.refl _)
      · refine RG.st 4 (congrFun (congrFun (congrFun (congrFun (congrFun (congrFun (congrFun b_X8_waysTo_8 v1) v3) v4) v6) M) a1) a2) ?_
        refine RG.bind (fun w1 h5 => RG.st 1 (run_callV (v := some (.int w1)) rfl rfl rfl rfl rfl (bindI h5)) ?_)
        show RG C_X8_waysTo (57, [some (.ref 19), some (.long v1), none, some (.int v3), some (.long v4), none, some (.int v6), some (.int a2.1), some (.int a1.2), some (.int a2.2)], [.int w1, .int a2.1], M, 0) _ _
        refine RG.step (m_X8_waysTo_0 v1 v3 v4 v6 M a1 a2 w1) ?_
        refine RG.st 4 (congrFun (congrFun (congrFun (congrFun (congrFun (congrFun (congrFun (congrFun b_X8_waysTo_12 v1) v3) v4) v6) M) a1) a2) w1) ?_
        exact RG.to rfl (Rto.refl _)
  · exact RG.to rfl (Rto.refl _)
set_option maxRecDepth 100000 in
theorem b_X8_waysTo_13 : (fun (v1 : Int64) (v3 : Int32) (v4 : Int64) (v6 : Int32) (M : Mem) (a1 : (Int32 × Int32)) (a3 : (Int32 × Int32)) => run C_X8_waysTo 2 (76, [some (.ref 19), some (.long v1), none, some (.int v3), some (.long v4), none, some (.int v6), some (.int a3.1), some (.int a1.2), some (.int a3.2)], [], M, 0)) = (fun (v1 : Int64) (v3 : Int32) (v4 : Int64) (v6 : Int32) (M : Mem) (a1 : (Int32 × Int32)) (a3 : (Int32 × Int32)) => some (.inl (6, [some (.ref 19), some (.long v1), none, some (.int v3), some (.long v4), none, some (.int v6), some (.int a3.1), some (.int (a1.2 + (1 : Int32))), some (.int a3.2)], [], M, 0))) := by rfl
def g_X8_waysTo_1 (v1 : Int64) (v3 : Int32) (v4 : Int64) (v6 : Int32) (M : Mem) : Int32 × Int32 → Option ((Int32 × Int32) ⊕ ((Int32 × Int32) ⊕ Int32)) := fun (a1 : Int32 × Int32) => (if a1.2 < (d_X8_size M) then (onIt (iter (g_X8_waysTo_2 v1 v3 v4 v6 M a1) 20000 (a1.1, (0 : Int32))) (fun (a3 : Int32 × Int32) => some (.inl (a3.1, (a1.2 + (1 : Int32))))) (fun r => some (.inr (.inr r)))) else some (.inr (.inl (a1.1, a1.2))))
set_option maxHeartbeats 2000000 in
theorem l_X8_waysTo_1 (v1 : Int64) (v3 : Int32) (v4 : Int64) (v6 : Int32) (M : Mem) : ∀ a1 : Int32 × Int32, RG C_X8_waysTo ((fun (a1 : Int32 × Int32) => (6, [some (.ref 19), some (.long v1), none, some (.int v3), some (.long v4), none, some (.int v6), some (.int a1.1), some (.int a1.2), none], [], M, 0)) a1) (g_X8_waysTo_1 v1 v3 v4 v6 M a1) (lpP (fun (a1 : Int32 × Int32) => (6, [some (.ref 19), some (.long v1), none, some (.int v3), some (.long v4), none, some (.int v6), some (.int a1.1), some (.int a1.2), none], [], M, 0)) (fun (a1 : Int32 × Int32) => (82, [some (.ref 19), some (.long v1), none, some (.int v3), some (.long v4), none, some (.int v6), some (.int a1.1), some (.int a1.2), none], [], M, 0)) (fun (v : Int32) => (.inl (some (.int v)), M))) := by
  intro a1
  unfold g_X8_waysTo_1
  show RG C_X8_waysTo (6, [some (.ref 19), some (.long v1), none, some (.int v3), some (.long v4), none, some (.int v6), some (.int a1.1), some (.int a1.2), none], [], M, 0) _ _
  refine RG.st 4 (congrFun (congrFun (congrFun (congrFun (congrFun (congrFun b_X8_waysTo_1 v1) v3) v4) v6) M) a1) ?_
  refine RG.ite (fun h1 => RG.brNF (q := 15) h1 rfl ?_) (fun h1 => RG.brNT (q := 82) h1 rfl ?_)
  · refine RG.st 2 (congrFun (congrFun (congrFun (congrFun (congrFun (congrFun b_X8_waysTo_2 v1) v3) v4) v6) M) a1) ?_
    refine RG.loop (hd := (fun (a2 : Int32 × Int32) => (18, [some (.ref 19), some (.long v1), none, some (.int v3), some (.long v4), none, some (.int v6), some (.int a2.1), some (.int a1.2), some (.int a2.2)], [], M, 0))) (ex := (fun (a2 : Int32 × Int32) => (76, [some (.ref 19), some (.long v1), none, some (.int v3), some (.long v4), none, some (.int v6), some (.int a2.1), some (.int a1.2), some (.int a2.2)], [], M, 0))) (rt := (fun (v : Int32) => (.inl (some (.int v)), M))) (l_X8_waysTo_2 v1 v3 v4 v6 M a1) (fun a3 => ?_) (fun r v h => by cases h; rfl)
    show RG C_X8_waysTo (76, [some (.ref 19), some (.long v1), none, some (.int v3), some (.long v4), none, some (.int v6), some (.int a3.1), some (.int a1.2), some (.int a3.2)], [], M, 0) _ _
    refine RG.st 2 (congrFun (congrFun (congrFun (congrFun (congrFun (congrFun (congrFun b_X8_waysTo_13 v1) v3) v4) v6) M) a1) a3) ?_
    exact RG.to rfl (Rto.fgt [9] rfl)
  · exact RG.to rfl (Rto.refl _)
set_option maxRecDepth 100000 in
theorem b_X8_waysTo_14 : (fun (v1 : Int64) (v3 : Int32) (v4 : Int64) (v6 : Int32) (M : Mem) (a4 : (Int32 × Int32)) => run C_X8_waysTo 2 (82, [some (.ref 19), some (.long v1), none, some (.int v3), some (.long v4), none, some (.int v6), some (.int a4.1), some (.int a4.2), none], [], M, 0)) = (fun (v1 : Int64) (v3 : Int32) (v4 : Int64) (v6 : Int32) (M : Mem) (a4 : (Int32 × Int32)) => some (.inr (.inl (some (.int a4.1)), M, 0))) := by rfl
def d_X8_waysTo (v1 : Int64) (v3 : Int32) (v4 : Int64) (v6 : Int32) (M : Mem) : Option Int32 := (onIt (iter (g_X8_waysTo_1 v1 v3 v4 v6 M) 20000 ((0 : Int32), (0 : Int32))) (fun (a4 : Int32 × Int32) => some a4.1) (fun r => some r))
set_option maxHeartbeats 2000000 in
theorem r_X8_waysTo (v1 : Int64) (v3 : Int32) (v4 : Int64) (v6 : Int32) (M : Mem) : RG C_X8_waysTo (0, [some (.ref 19), some (.long v1), none, some (.int v3), some (.long v4), none, some (.int v6), none, none, none], [], M, 0) (d_X8_waysTo v1 v3 v4 v6 M) (fun v => .inr (.inl (some (.int v)), M)) := by
  unfold d_X8_waysTo
  refine RG.st 4 (congrFun (congrFun (congrFun (congrFun (congrFun b_X8_waysTo_0 v1) v3) v4) v6) M) ?_
  refine RG.loop (hd := (fun (a1 : Int32 × Int32) => (6, [some (.ref 19), some (.long v1), none, some (.int v3), some (.long v4), none, some (.int v6), some (.int a1.1), some (.int a1.2), none], [], M, 0))) (ex := (fun (a1 : Int32 × Int32) => (82, [some (.ref 19), some (.long v1), none, some (.int v3), some (.long v4), none, some (.int v6), some (.int a1.1), some (.int a1.2), none], [], M, 0))) (rt := (fun (v : Int32) => (.inl (some (.int v)), M))) (l_X8_waysTo_1 v1 v3 v4 v6 M) (fun a4 => ?_) (fun r v h => by cases h; rfl)
  show RG C_X8_waysTo (82, [some (.ref 19), some (.long v1), none, some (.int v3), some (.long v4), none, some (.int v6), some (.int a4.1), some (.int a4.2), none], [], M, 0) _ _
  exact RG.fin rfl (Rend.run 2 (congrFun (congrFun (congrFun (congrFun (congrFun (congrFun b_X8_waysTo_14 v1) v3) v4) v6) M) a4))
def fn_X8_waysTo : Fn := fun av M => match av with
  | [.ref r0, .long v1, .int v3, .long v4, .int v6] => bif Nat.beq r0 19 then (d_X8_waysTo v1 v3 v4 v6 M).bind fun v => some (.inl (some (.int v)), M) else (none)
  | _ => none
theorem cfg_X8_waysTo : CfgOK RX8 cX8_waysTo (C_X8_waysTo) 3 := ⟨tk_X8_waysTo, csF_nd, flk_X8, (List.forall_mem_cons.mpr ⟨Or.inr ⟨yX8_size, cX8_size, 1, (some .int), none, 1, ok_X8_size, by decide, by decide, w_code_SumsetryModel_size___I, w_initialized_SumsetryModel, ⟨by decide, by decide⟩, Or.inr (Or.inr ⟨rfl, rfl, show (parseMethodDescriptor yX8_size.desc).map (fun d => d.parameters.length + 1) = some 1 from by decide +kernel, w_methodLink_SumsetryModel_49, w_instanceMethod_SumsetryModel_size___I, w_selects_SumsetryModel_size___I, ⟨_, rfl, rfl⟩⟩)⟩,
    List.forall_mem_cons.mpr ⟨Or.inr ⟨yX8_has, cX8_has, 3, (some .boolean), none, 1, ok_X8_has, by decide, by decide, w_code_SumsetryModel_has__JI_Z, w_initialized_SumsetryModel, ⟨by decide, by decide⟩, Or.inl ⟨rfl, show (parseMethodDescriptor yX8_has.desc).map (fun d => d.parameters.length) = some 2 from by decide +kernel, w_methodLink_SumsetryModel_60, w_static_SumsetryModel_has__JI_Z⟩⟩,
    List.forall_mem_cons.mpr ⟨Or.inr ⟨yX8_plus, cX8_plus, 4, (some .int), none, 2, ok_X8_plus, by decide, by decide, w_code_SumsetryModel_plus__III_I, w_initialized_SumsetryModel, ⟨by decide, by decide⟩, Or.inr (Or.inr ⟨rfl, rfl, show (parseMethodDescriptor yX8_plus.desc).map (fun d => d.parameters.length + 1) = some 4 from by decide +kernel, w_methodLink_SumsetryModel_68, w_instanceMethod_SumsetryModel_plus__III_I, w_selects_SumsetryModel_plus__III_I, ⟨_, rfl, rfl⟩⟩)⟩, fun _ h => absurd h List.not_mem_nil⟩⟩⟩), ink_X8, lgk_X8, fun e h => absurd h List.not_mem_nil, (fun h hh => absurd hh List.not_mem_nil)⟩
theorem ok_X8_waysTo : OkM csF yX8_waysTo (Cond.code yX8_waysTo cX8_waysTo 10 (some .int)) 3 0 fn_X8_waysTo :=
  OkM_of (own := RX8) (C := C_X8_waysTo) (by decide +kernel) rfl (cfg_X8_waysTo) rfl rfl rfl rfl (by
    intro av M o M' h
    unfold fn_X8_waysTo at h
    split at h
    · rename_i r0 v1 v3 v4 v6
      rcases bif_cs h with ⟨hb, h⟩ | ⟨-, h⟩
      · skip
        have hr0 := hb
        obtain rfl := Nat.eq_of_beq_eq_true hr0
        obtain ⟨w, hw, h⟩ := bind_cs h
        cases h
        exact ⟨rfl, Nat.le_of_ble_eq_true rfl, (r_X8_waysTo v1 v3 v4 v6 M) w hw⟩
      · cases h
    · cases h)
def t_X8_areSets : List (Nat × Instr × Nat) := [(0, .aload_n 0, 1), (1, .aload_n 0, 1), (2, .iload_n 1, 1), (3, .invokevirtual 96, 3), (6, .ifCond .eq 15, 3), (9, .aload_n 0, 1), (10, .iload_n 2, 1), (11, .invokevirtual 96, 3), (14, .ifCond .eq 7, 3), (17, .iconst 0, 1), (18, .goto 4, 3), (21, .iconst 1, 1), (22, .putfield 46, 3), (25, .aload_n 0, 1), (26, .getfield 46, 3), (29, .ifCond .ne 7, 3), (32, .iconst 1, 1), (33, .goto 4, 3), (36, .iconst 0, 1), (37, .ireturn, 1)]
theorem tk_X8_areSets : ∀ x ∈ t_X8_areSets, decode cX8_areSets x.1 = .ok x.2 := by decide +kernel
def C_X8_areSets : Cfg := (t_X8_areSets, csF, fl_X8, [(96, 2, 6, 2, 0, fn_X8_isSet)], in_X8, lg_X8, [], [], none, (some .boolean), 0)
set_option maxRecDepth 100000 in
theorem b_X8_areSets_0 : (fun (v1 : Int32) (v2 : Int32) (M : Mem) => run C_X8_areSets 5 (0, [some (.ref 19), some (.int v1), some (.int v2)], [], M, 0)) = (fun (v1 : Int32) (v2 : Int32) (M : Mem) => some (.inl ((br (decide ((d_X8_isSet v1 M) = 0)) 6 3 (15)), [some (.ref 19), some (.int v1), some (.int v2)], [.ref 19], M, 0))) := by rfl
set_option maxRecDepth 100000 in
theorem b_X8_areSets_1 : (fun (v1 : Int32) (v2 : Int32) (M : Mem) => run C_X8_areSets 1 (21, [some (.ref 19), some (.int v1), some (.int v2)], [.ref 19], M, 0)) = (fun (v1 : Int32) (v2 : Int32) (M : Mem) => some (.inl (22, [some (.ref 19), some (.int v1), some (.int v2)], [.int (1 : Int32), .ref 19], M, 0))) := by rfl
set_option maxRecDepth 100000 in
theorem b_X8_areSets_2 : (fun (v1 : Int32) (v2 : Int32) (M : Mem) => run C_X8_areSets 4 (9, [some (.ref 19), some (.int v1), some (.int v2)], [.ref 19], M, 0)) = (fun (v1 : Int32) (v2 : Int32) (M : Mem) => some (.inl ((br (decide ((d_X8_isSet v2 M) = 0)) 14 3 (7)), [some (.ref 19), some (.int v1), some (.int v2)], [.ref 19], M, 0))) := by rfl
set_option maxRecDepth 100000 in
theorem b_X8_areSets_3 : (fun (v1 : Int32) (v2 : Int32) (M : Mem) => run C_X8_areSets 1 (21, [some (.ref 19), some (.int v1), some (.int v2)], [.ref 19], M, 0)) = (fun (v1 : Int32) (v2 : Int32) (M : Mem) => some (.inl (22, [some (.ref 19), some (.int v1), some (.int v2)], [.int (1 : Int32), .ref 19], M, 0))) := by rfl
set_option maxRecDepth 100000 in
theorem b_X8_areSets_4 : (fun (v1 : Int32) (v2 : Int32) (M : Mem) => run C_X8_areSets 2 (17, [some (.ref 19), some (.int v1), some (.int v2)], [.ref 19], M, 0)) = (fun (v1 : Int32) (v2 : Int32) (M : Mem) => some (.inl (22, [some (.ref 19), some (.int v1), some (.int v2)], [.int (0 : Int32), .ref 19], M, 0))) := by rfl
theorem m_X8_areSets_0 (v1 : Int32) (v2 : Int32) (M : Mem) : Rto C_X8_areSets (9, [some (.ref 19), some (.int v1), some (.int v2)], [.ref 19], M, 0) (22, [some (.ref 19), some (.int v1), some (.int v2)], [.int (if (d_X8_isSet v2 M) = 0 then (1 : Int32) else (0 : Int32)), .ref 19], M, 0) := by
  refine Rto.trans (Rto.run 4 (congrFun (congrFun (congrFun b_X8_areSets_2 v1) v2) M)) ?_
  by_cases h : (d_X8_isSet v2 M) = 0
  · refine Rto.trans (Rto.brT (q := 21) h rfl) ?_
    refine Rto.trans (Rto.run 1 (congrFun (congrFun (congrFun b_X8_areSets_3 v1) v2) M)) ?_
    exact Rto.eq (by first | (simp only [if_pos h]; done) | rfl | exact absurd rfl h | (simp; done))
  · refine Rto.trans (Rto.brF (q := 17) h rfl) ?_
    refine Rto.trans (Rto.run 2 (congrFun (congrFun (congrFun b_X8_areSets_4 v1) v2) M)) ?_
    exact Rto.eq (by first | (simp only [if_neg h]; done) | rfl | exact absurd rfl h | (simp; done))
theorem m_X8_areSets_1 (v1 : Int32) (v2 : Int32) (M : Mem) : Rto C_X8_areSets (0, [some (.ref 19), some (.int v1), some (.int v2)], [], M, 0) (22, [some (.ref 19), some (.int v1), some (.int v2)], [.int (if (d_X8_isSet v1 M) = 0 then (1 : Int32) else (if (d_X8_isSet v2 M) = 0 then (1 : Int32) else (0 : Int32))), .ref 19], M, 0) := by
  refine Rto.trans (Rto.run 5 (congrFun (congrFun (congrFun b_X8_areSets_0 v1) v2) M)) ?_
  by_cases h : (d_X8_isSet v1 M) = 0
  · refine Rto.trans (Rto.brT (q := 21) h rfl) ?_
    refine Rto.trans (Rto.run 1 (congrFun (congrFun (congrFun b_X8_areSets_1 v1) v2) M)) ?_
    exact Rto.eq (by first | (simp only [if_pos h]; done) | rfl | exact absurd rfl h | (simp; done))
  · refine Rto.trans (Rto.brF (q := 9) h rfl) ?_
    refine Rto.trans (m_X8_areSets_0 v1 v2 M) ?_
    exact Rto.eq (by first | (simp only [if_neg h]; done) | rfl | exact absurd rfl h | (simp; done))
set_option maxRecDepth 100000 in
theorem b_X8_areSets_5 : (fun (v1 : Int32) (v2 : Int32) (M : Mem) => run C_X8_areSets 4 (22, [some (.ref 19), some (.int v1), some (.int v2)], [.int (if (d_X8_isSet v1 M) = 0 then (1 : Int32) else (if (d_X8_isSet v2 M) = 0 then (1 : Int32) else (0 : Int32))), .ref 19], M, 0)) = (fun (v1 : Int32) (v2 : Int32) (M : Mem) => some (.inl ((br (!decide ((if (d_X8_isSet v1 M) = 0 then (1 : Int32) else (if (d_X8_isSet v2 M) = 0 then (1 : Int32) else (0 : Int32))) = 0)) 29 3 (7)), [some (.ref 19), some (.int v1), some (.int v2)], [], (sI M 19 15 (if (d_X8_isSet v1 M) = 0 then (1 : Int32) else (if (d_X8_isSet v2 M) = 0 then (1 : Int32) else (0 : Int32)))), 0))) := by rfl
set_option maxRecDepth 100000 in
theorem b_X8_areSets_6 : (fun (v1 : Int32) (v2 : Int32) (M : Mem) => run C_X8_areSets 3 (32, [some (.ref 19), some (.int v1), some (.int v2)], [], (sI M 19 15 (if (d_X8_isSet v1 M) = 0 then (1 : Int32) else (if (d_X8_isSet v2 M) = 0 then (1 : Int32) else (0 : Int32)))), 0)) = (fun (v1 : Int32) (v2 : Int32) (M : Mem) => some (.inr (.inl (some (.int (1 : Int32))), (sI M 19 15 (if (d_X8_isSet v1 M) = 0 then (1 : Int32) else (if (d_X8_isSet v2 M) = 0 then (1 : Int32) else (0 : Int32)))), 0))) := by rfl
set_option maxRecDepth 100000 in
theorem b_X8_areSets_7 : (fun (v1 : Int32) (v2 : Int32) (M : Mem) => run C_X8_areSets 2 (36, [some (.ref 19), some (.int v1), some (.int v2)], [], (sI M 19 15 (if (d_X8_isSet v1 M) = 0 then (1 : Int32) else (if (d_X8_isSet v2 M) = 0 then (1 : Int32) else (0 : Int32)))), 0)) = (fun (v1 : Int32) (v2 : Int32) (M : Mem) => some (.inr (.inl (some (.int (0 : Int32))), (sI M 19 15 (if (d_X8_isSet v1 M) = 0 then (1 : Int32) else (if (d_X8_isSet v2 M) = 0 then (1 : Int32) else (0 : Int32)))), 0))) := by rfl
def d_X8_areSets (v1 : Int32) (v2 : Int32) (M : Mem) : Option (Res × Mem) := (if (if (d_X8_isSet v1 M) = 0 then (1 : Int32) else (if (d_X8_isSet v2 M) = 0 then (1 : Int32) else (0 : Int32))) = 0 then some (.inl (some (.int (1 : Int32))), (sI M 19 15 (if (d_X8_isSet v1 M) = 0 then (1 : Int32) else (if (d_X8_isSet v2 M) = 0 then (1 : Int32) else (0 : Int32))))) else some (.inl (some (.int (0 : Int32))), (sI M 19 15 (if (d_X8_isSet v1 M) = 0 then (1 : Int32) else (if (d_X8_isSet v2 M) = 0 then (1 : Int32) else (0 : Int32))))))
set_option maxHeartbeats 2000000 in
theorem r_X8_areSets (v1 : Int32) (v2 : Int32) (M : Mem) : RG C_X8_areSets (0, [some (.ref 19), some (.int v1), some (.int v2)], [], M, 0) (d_X8_areSets v1 v2 M) (fun r => .inr r) := by
  unfold d_X8_areSets
  refine RG.step (m_X8_areSets_1 v1 v2 M) ?_
  refine RG.st 4 (congrFun (congrFun (congrFun b_X8_areSets_5 v1) v2) M) ?_
  refine RG.ite (fun h1 => RG.brNF (q := 32) h1 rfl ?_) (fun h1 => RG.brNT (q := 36) h1 rfl ?_)
  · exact RG.fin rfl (Rend.run 3 (congrFun (congrFun (congrFun b_X8_areSets_6 v1) v2) M))
  · exact RG.fin rfl (Rend.run 2 (congrFun (congrFun (congrFun b_X8_areSets_7 v1) v2) M))
def fn_X8_areSets : Fn := fun av M => match av with
  | [.ref r0, .int v1, .int v2] => bif Nat.beq r0 19 then (d_X8_areSets v1 v2 M) else (none)
  | _ => none
theorem cfg_X8_areSets : CfgOK RX8 cX8_areSets (C_X8_areSets) 3 := ⟨tk_X8_areSets, csF_nd, flk_X8, (List.forall_mem_cons.mpr ⟨Or.inr ⟨yX8_isSet, cX8_isSet, 2, (some .boolean), none, 2, ok_X8_isSet, by decide, by decide, w_code_SumsetryModel_isSet__I_Z, w_initialized_SumsetryModel, ⟨by decide, by decide⟩, Or.inr (Or.inr ⟨rfl, rfl, show (parseMethodDescriptor yX8_isSet.desc).map (fun d => d.parameters.length + 1) = some 2 from by decide +kernel, w_methodLink_SumsetryModel_96, w_instanceMethod_SumsetryModel_isSet__I_Z, w_selects_SumsetryModel_isSet__I_Z, ⟨_, rfl, rfl⟩⟩)⟩, fun _ h => absurd h List.not_mem_nil⟩), ink_X8, lgk_X8, fun e h => absurd h List.not_mem_nil, (fun h hh => absurd hh List.not_mem_nil)⟩
theorem ok_X8_areSets : OkM csF yX8_areSets (Cond.code yX8_areSets cX8_areSets 3 (some .boolean)) 3 0 fn_X8_areSets :=
  OkM_of (own := RX8) (C := C_X8_areSets) (by decide +kernel) rfl (cfg_X8_areSets) rfl rfl rfl rfl (by
    intro av M o M' h
    unfold fn_X8_areSets at h
    split at h
    · rename_i r0 v1 v2
      rcases bif_cs h with ⟨hb, h⟩ | ⟨-, h⟩
      · skip
        have hr0 := hb
        obtain rfl := Nat.eq_of_beq_eq_true hr0
        exact ⟨rfl, Nat.le_of_ble_eq_true rfl, (r_X8_areSets v1 v2 M) (o, M') h⟩
      · cases h
    · cases h)
def t_X8_ways : List (Nat × Instr × Nat) := [(0, .aload_n 0, 1), (1, .aload_n 0, 1), (2, .iload_n 1, 1), (3, .invokevirtual 96, 3), (6, .ifCond .eq 23, 3), (9, .aload_n 0, 1), (10, .iload_n 2, 1), (11, .invokevirtual 96, 3), (14, .ifCond .eq 15, 3), (17, .aload_n 0, 1), (18, .iload_n 3, 1), (19, .invokevirtual 78, 3), (22, .ifCond .eq 7, 3), (25, .iconst 0, 1), (26, .goto 4, 3), (29, .iconst 1, 1), (30, .putfield 46, 3), (33, .aload_n 0, 1), (34, .getfield 46, 3), (37, .ifCond .le 7, 3), (40, .iconst 0, 1), (41, .goto 21, 3), (44, .aload_n 0, 1), (45, .aload_n 0, 1), (46, .getfield 16, 3), (49, .iload_n 1, 1), (50, .laload, 1), (51, .iconst 1, 1), (52, .aload_n 0, 1), (53, .getfield 16, 3), (56, .iload_n 2, 1), (57, .laload, 1), (58, .iload_n 3, 1), (59, .invokevirtual 103, 3), (62, .ireturn, 1)]
theorem tk_X8_ways : ∀ x ∈ t_X8_ways, decode cX8_ways x.1 = .ok x.2 := by decide +kernel
def C_X8_ways : Cfg := (t_X8_ways, csF, fl_X8, [(78, 2, 6, 2, 0, fn_X8_isElement), (96, 2, 6, 2, 0, fn_X8_isSet), (103, 2, 6, 5, 0, fn_X8_waysTo)], in_X8, lg_X8, [], [], none, (some .int), 0)
set_option maxRecDepth 100000 in
theorem b_X8_ways_0 : (fun (v1 : Int32) (v2 : Int32) (v3 : Int32) (M : Mem) => run C_X8_ways 5 (0, [some (.ref 19), some (.int v1), some (.int v2), some (.int v3)], [], M, 0)) = (fun (v1 : Int32) (v2 : Int32) (v3 : Int32) (M : Mem) => some (.inl ((br (decide ((d_X8_isSet v1 M) = 0)) 6 3 (23)), [some (.ref 19), some (.int v1), some (.int v2), some (.int v3)], [.ref 19], M, 0))) := by rfl
set_option maxRecDepth 100000 in
theorem b_X8_ways_1 : (fun (v1 : Int32) (v2 : Int32) (v3 : Int32) (M : Mem) => run C_X8_ways 1 (29, [some (.ref 19), some (.int v1), some (.int v2), some (.int v3)], [.ref 19], M, 0)) = (fun (v1 : Int32) (v2 : Int32) (v3 : Int32) (M : Mem) => some (.inl (30, [some (.ref 19), some (.int v1), some (.int v2), some (.int v3)], [.int (1 : Int32), .ref 19], M, 0))) := by rfl
set_option maxRecDepth 100000 in
theorem b_X8_ways_2 : (fun (v1 : Int32) (v2 : Int32) (v3 : Int32) (M : Mem) => run C_X8_ways 4 (9, [some (.ref 19), some (.int v1), some (.int v2), some (.int v3)], [.ref 19], M, 0)) = (fun (v1 : Int32) (v2 : Int32) (v3 : Int32) (M : Mem) => some (.inl ((br (decide ((d_X8_isSet v2 M) = 0)) 14 3 (15)), [some (.ref 19), some (.int v1), some (.int v2), some (.int v3)], [.ref 19], M, 0))) := by rfl
set_option maxRecDepth 100000 in
theorem b_X8_ways_3 : (fun (v1 : Int32) (v2 : Int32) (v3 : Int32) (M : Mem) => run C_X8_ways 1 (29, [some (.ref 19), some (.int v1), some (.int v2), some (.int v3)], [.ref 19], M, 0)) = (fun (v1 : Int32) (v2 : Int32) (v3 : Int32) (M : Mem) => some (.inl (30, [some (.ref 19), some (.int v1), some (.int v2), some (.int v3)], [.int (1 : Int32), .ref 19], M, 0))) := by rfl
set_option maxRecDepth 100000 in
theorem b_X8_ways_4 : (fun (v1 : Int32) (v2 : Int32) (v3 : Int32) (M : Mem) => run C_X8_ways 4 (17, [some (.ref 19), some (.int v1), some (.int v2), some (.int v3)], [.ref 19], M, 0)) = (fun (v1 : Int32) (v2 : Int32) (v3 : Int32) (M : Mem) => some (.inl ((br (decide ((d_X8_isElement v3 M) = 0)) 22 3 (7)), [some (.ref 19), some (.int v1), some (.int v2), some (.int v3)], [.ref 19], M, 0))) := by rfl
set_option maxRecDepth 100000 in
theorem b_X8_ways_5 : (fun (v1 : Int32) (v2 : Int32) (v3 : Int32) (M : Mem) => run C_X8_ways 1 (29, [some (.ref 19), some (.int v1), some (.int v2), some (.int v3)], [.ref 19], M, 0)) = (fun (v1 : Int32) (v2 : Int32) (v3 : Int32) (M : Mem) => some (.inl (30, [some (.ref 19), some (.int v1), some (.int v2), some (.int v3)], [.int (1 : Int32), .ref 19], M, 0))) := by rfl
set_option maxRecDepth 100000 in
theorem b_X8_ways_6 : (fun (v1 : Int32) (v2 : Int32) (v3 : Int32) (M : Mem) => run C_X8_ways 2 (25, [some (.ref 19), some (.int v1), some (.int v2), some (.int v3)], [.ref 19], M, 0)) = (fun (v1 : Int32) (v2 : Int32) (v3 : Int32) (M : Mem) => some (.inl (30, [some (.ref 19), some (.int v1), some (.int v2), some (.int v3)], [.int (0 : Int32), .ref 19], M, 0))) := by rfl
theorem m_X8_ways_0 (v1 : Int32) (v2 : Int32) (v3 : Int32) (M : Mem) : Rto C_X8_ways (17, [some (.ref 19), some (.int v1), some (.int v2), some (.int v3)], [.ref 19], M, 0) (30, [some (.ref 19), some (.int v1), some (.int v2), some (.int v3)], [.int (if (d_X8_isElement v3 M) = 0 then (1 : Int32) else (0 : Int32)), .ref 19], M, 0) := by
  refine Rto.trans (Rto.run 4 (congrFun (congrFun (congrFun (congrFun b_X8_ways_4 v1) v2) v3) M)) ?_
  by_cases h : (d_X8_isElement v3 M) = 0
  · refine Rto.trans (Rto.brT (q := 29) h rfl) ?_
    refine Rto.trans (Rto.run 1 (congrFun (congrFun (congrFun (congrFun b_X8_ways_5 v1) v2) v3) M)) ?_
    exact Rto.eq (by first | (simp only [if_pos h]; done) | rfl | exact absurd rfl h | (simp; done))
  · refine Rto.trans (Rto.brF (q := 25) h rfl) ?_
    refine Rto.trans (Rto.run 2 (congrFun (congrFun (congrFun (congrFun b_X8_ways_6 v1) v2) v3) M)) ?_
    exact Rto.eq (by first | (simp only [if_neg h]; done) | rfl | exact absurd rfl h | (simp; done))
theorem m_X8_ways_1 (v1 : Int32) (v2 : Int32) (v3 : Int32) (M : Mem) : Rto C_X8_ways (9, [some (.ref 19), some (.int v1), some (.int v2), some (.int v3)], [.ref 19], M, 0) (30, [some (.ref 19), some (.int v1), some (.int v2), some (.int v3)], [.int (if (d_X8_isSet v2 M) = 0 then (1 : Int32) else (if (d_X8_isElement v3 M) = 0 then (1 : Int32) else (0 : Int32))), .ref 19], M, 0) := by
  refine Rto.trans (Rto.run 4 (congrFun (congrFun (congrFun (congrFun b_X8_ways_2 v1) v2) v3) M)) ?_
  by_cases h : (d_X8_isSet v2 M) = 0
  · refine Rto.trans (Rto.brT (q := 29) h rfl) ?_
    refine Rto.trans (Rto.run 1 (congrFun (congrFun (congrFun (congrFun b_X8_ways_3 v1) v2) v3) M)) ?_
    exact Rto.eq (by first | (simp only [if_pos h]; done) | rfl | exact absurd rfl h | (simp; done))
  · refine Rto.trans (Rto.brF (q := 17) h rfl) ?_
    refine Rto.trans (m_X8_ways_0 v1 v2 v3 M) ?_
    exact Rto.eq (by first | (simp only [if_neg h]; done) | rfl | exact absurd rfl h | (simp; done))
theorem m_X8_ways_2 (v1 : Int32) (v2 : Int32) (v3 : Int32) (M : Mem) : Rto C_X8_ways (0, [some (.ref 19), some (.int v1), some (.int v2), some (.int v3)], [], M, 0) (30, [some (.ref 19), some (.int v1), some (.int v2), some (.int v3)], [.int (if (d_X8_isSet v1 M) = 0 then (1 : Int32) else (if (d_X8_isSet v2 M) = 0 then (1 : Int32) else (if (d_X8_isElement v3 M) = 0 then (1 : Int32) else (0 : Int32)))), .ref 19], M, 0) := by
  refine Rto.trans (Rto.run 5 (congrFun (congrFun (congrFun (congrFun b_X8_ways_0 v1) v2) v3) M)) ?_
  by_cases h : (d_X8_isSet v1 M) = 0
  · refine Rto.trans (Rto.brT (q := 29) h rfl) ?_
    refine Rto.trans (Rto.run 1 (congrFun (congrFun (congrFun (congrFun b_X8_ways_1 v1) v2) v3) M)) ?_
    exact Rto.eq (by first | (simp only [if_pos h]; done) | rfl | exact absurd rfl h | (simp; done))
  · refine Rto.trans (Rto.brF (q := 9) h rfl) ?_
    refine Rto.trans (m_X8_ways_1 v1 v2 v3 M) ?_
    exact Rto.eq (by first | (simp only [if_neg h]; done) | rfl | exact absurd rfl h | (simp; done))
set_option maxRecDepth 100000 in
theorem b_X8_ways_7 : (fun (v1 : Int32) (v2 : Int32) (v3 : Int32) (M : Mem) => run C_X8_ways 4 (30, [some (.ref 19), some (.int v1), some (.int v2), some (.int v3)], [.int (if (d_X8_isSet v1 M) = 0 then (1 : Int32) else (if (d_X8_isSet v2 M) = 0 then (1 : Int32) else (if (d_X8_isElement v3 M) = 0 then (1 : Int32) else (0 : Int32)))), .ref 19], M, 0)) = (fun (v1 : Int32) (v2 : Int32) (v3 : Int32) (M : Mem) => some (.inl ((br (decide ((if (d_X8_isSet v1 M) = 0 then (1 : Int32) else (if (d_X8_isSet v2 M) = 0 then (1 : Int32) else (if (d_X8_isElement v3 M) = 0 then (1 : Int32) else (0 : Int32)))) ≤ 0)) 37 3 (7)), [some (.ref 19), some (.int v1), some (.int v2), some (.int v3)], [], (sI M 19 15 (if (d_X8_isSet v1 M) = 0 then (1 : Int32) else (if (d_X8_isSet v2 M) = 0 then (1 : Int32) else (if (d_X8_isElement v3 M) = 0 then (1 : Int32) else (0 : Int32))))), 0))) := by rfl
set_option maxRecDepth 100000 in
theorem b_X8_ways_8 : (fun (v1 : Int32) (v2 : Int32) (v3 : Int32) (M : Mem) => run C_X8_ways 4 (44, [some (.ref 19), some (.int v1), some (.int v2), some (.int v3)], [], (sI M 19 15 (if (d_X8_isSet v1 M) = 0 then (1 : Int32) else (if (d_X8_isSet v2 M) = 0 then (1 : Int32) else (if (d_X8_isElement v3 M) = 0 then (1 : Int32) else (0 : Int32))))), 0)) = (fun (v1 : Int32) (v2 : Int32) (v3 : Int32) (M : Mem) => some (.inl (50, [some (.ref 19), some (.int v1), some (.int v2), some (.int v3)], [.int v1, .ref 20, .ref 19], (sI M 19 15 (if (d_X8_isSet v1 M) = 0 then (1 : Int32) else (if (d_X8_isSet v2 M) = 0 then (1 : Int32) else (if (d_X8_isElement v3 M) = 0 then (1 : Int32) else (0 : Int32))))), 0))) := by rfl
set_option maxRecDepth 100000 in
theorem b_X8_ways_9 : (fun (v1 : Int32) (v2 : Int32) (v3 : Int32) (M : Mem) => stp C_X8_ways (50, [some (.ref 19), some (.int v1), some (.int v2), some (.int v3)], [.int v1, .ref 20, .ref 19], (sI M 19 15 (if (d_X8_isSet v1 M) = 0 then (1 : Int32) else (if (d_X8_isSet v2 M) = 0 then (1 : Int32) else (if (d_X8_isElement v3 M) = 0 then (1 : Int32) else (0 : Int32))))), 0)) = (fun (v1 : Int32) (v2 : Int32) (v3 : Int32) (M : Mem) => (if inb v1 30 = true then some (.inl (51, [some (.ref 19), some (.int v1), some (.int v2), some (.int v3)], [.long (M.2 20 (ix v1)), .ref 19], (sI M 19 15 (if (d_X8_isSet v1 M) = 0 then (1 : Int32) else (if (d_X8_isSet v2 M) = 0 then (1 : Int32) else (if (d_X8_isElement v3 M) = 0 then (1 : Int32) else (0 : Int32))))), 0)) else none)) := by rfl
set_option maxRecDepth 100000 in
theorem b_X8_ways_10 : (fun (v1 : Int32) (v2 : Int32) (v3 : Int32) (M : Mem) => run C_X8_ways 4 (51, [some (.ref 19), some (.int v1), some (.int v2), some (.int v3)], [.long (M.2 20 (ix v1)), .ref 19], (sI M 19 15 (if (d_X8_isSet v1 M) = 0 then (1 : Int32) else (if (d_X8_isSet v2 M) = 0 then (1 : Int32) else (if (d_X8_isElement v3 M) = 0 then (1 : Int32) else (0 : Int32))))), 0)) = (fun (v1 : Int32) (v2 : Int32) (v3 : Int32) (M : Mem) => some (.inl (57, [some (.ref 19), some (.int v1), some (.int v2), some (.int v3)], [.int v2, .ref 20, .int (1 : Int32), .long (M.2 20 (ix v1)), .ref 19], (sI M 19 15 (if (d_X8_isSet v1 M) = 0 then (1 : Int32) else (if (d_X8_isSet v2 M) = 0 then (1 : Int32) else (if (d_X8_isElement v3 M) = 0 then (1 : Int32) else (0 : Int32))))), 0))) := by rfl
set_option maxRecDepth 100000 in
theorem b_X8_ways_11 : (fun (v1 : Int32) (v2 : Int32) (v3 : Int32) (M : Mem) => stp C_X8_ways (57, [some (.ref 19), some (.int v1), some (.int v2), some (.int v3)], [.int v2, .ref 20, .int (1 : Int32), .long (M.2 20 (ix v1)), .ref 19], (sI M 19 15 (if (d_X8_isSet v1 M) = 0 then (1 : Int32) else (if (d_X8_isSet v2 M) = 0 then (1 : Int32) else (if (d_X8_isElement v3 M) = 0 then (1 : Int32) else (0 : Int32))))), 0)) = (fun (v1 : Int32) (v2 : Int32) (v3 : Int32) (M : Mem) => (if inb v2 30 = true then some (.inl (58, [some (.ref 19), some (.int v1), some (.int v2), some (.int v3)], [.long (M.2 20 (ix v2)), .int (1 : Int32), .long (M.2 20 (ix v1)), .ref 19], (sI M 19 15 (if (d_X8_isSet v1 M) = 0 then (1 : Int32) else (if (d_X8_isSet v2 M) = 0 then (1 : Int32) else (if (d_X8_isElement v3 M) = 0 then (1 : Int32) else (0 : Int32))))), 0)) else none)) := by rfl
set_option maxRecDepth 100000 in
theorem b_X8_ways_12 : (fun (v1 : Int32) (v2 : Int32) (v3 : Int32) (M : Mem) => run C_X8_ways 1 (58, [some (.ref 19), some (.int v1), some (.int v2), some (.int v3)], [.long (M.2 20 (ix v2)), .int (1 : Int32), .long (M.2 20 (ix v1)), .ref 19], (sI M 19 15 (if (d_X8_isSet v1 M) = 0 then (1 : Int32) else (if (d_X8_isSet v2 M) = 0 then (1 : Int32) else (if (d_X8_isElement v3 M) = 0 then (1 : Int32) else (0 : Int32))))), 0)) = (fun (v1 : Int32) (v2 : Int32) (v3 : Int32) (M : Mem) => some (.inl (59, [some (.ref 19), some (.int v1), some (.int v2), some (.int v3)], [.int v3, .long (M.2 20 (ix v2)), .int (1 : Int32), .long (M.2 20 (ix v1)), .ref 19], (sI M 19 15 (if (d_X8_isSet v1 M) = 0 then (1 : Int32) else (if (d_X8_isSet v2 M) = 0 then (1 : Int32) else (if (d_X8_isElement v3 M) = 0 then (1 : Int32) else (0 : Int32))))), 0))) := by rfl
set_option maxRecDepth 100000 in
theorem b_X8_ways_13 : (fun (v1 : Int32) (v2 : Int32) (v3 : Int32) (M : Mem) (w1 : Int32) => run C_X8_ways 1 (62, [some (.ref 19), some (.int v1), some (.int v2), some (.int v3)], [.int w1], (sI M 19 15 (if (d_X8_isSet v1 M) = 0 then (1 : Int32) else (if (d_X8_isSet v2 M) = 0 then (1 : Int32) else (if (d_X8_isElement v3 M) = 0 then (1 : Int32) else (0 : Int32))))), 0)) = (fun (v1 : Int32) (v2 : Int32) (v3 : Int32) (M : Mem) (w1 : Int32) => some (.inr (.inl (some (.int w1)), (sI M 19 15 (if (d_X8_isSet v1 M) = 0 then (1 : Int32) else (if (d_X8_isSet v2 M) = 0 then (1 : Int32) else (if (d_X8_isElement v3 M) = 0 then (1 : Int32) else (0 : Int32))))), 0))) := by rfl
set_option maxRecDepth 100000 in
theorem b_X8_ways_14 : (fun (v1 : Int32) (v2 : Int32) (v3 : Int32) (M : Mem) => run C_X8_ways 3 (40, [some (.ref 19), some (.int v1), some (.int v2), some (.int v3)], [], (sI M 19 15 (if (d_X8_isSet v1 M) = 0 then (1 : Int32) else (if (d_X8_isSet v2 M) = 0 then (1 : Int32) else (if (d_X8_isElement v3 M) = 0 then (1 : Int32) else (0 : Int32))))), 0)) = (fun (v1 : Int32) (v2 : Int32) (v3 : Int32) (M : Mem) => some (.inr (.inl (some (.int (0 : Int32))), (sI M 19 15 (if (d_X8_isSet v1 M) = 0 then (1 : Int32) else (if (d_X8_isSet v2 M) = 0 then (1 : Int32) else (if (d_X8_isElement v3 M) = 0 then (1 : Int32) else (0 : Int32))))), 0))) := by rfl
def d_X8_ways (v1 : Int32) (v2 : Int32) (v3 : Int32) (M : Mem) : Option (Res × Mem) := (if (if (d_X8_isSet v1 M) = 0 then (1 : Int32) else (if (d_X8_isSet v2 M) = 0 then (1 : Int32) else (if (d_X8_isElement v3 M) = 0 then (1 : Int32) else (0 : Int32)))) ≤ 0 then (if inb v1 30 = true then (if inb v2 30 = true then ((d_X8_waysTo (M.2 20 (ix v1)) (1 : Int32) (M.2 20 (ix v2)) v3 (sI M 19 15 (if (d_X8_isSet v1 M) = 0 then (1 : Int32) else (if (d_X8_isSet v2 M) = 0 then (1 : Int32) else (if (d_X8_isElement v3 M) = 0 then (1 : Int32) else (0 : Int32)))))).bind fun w1 => some (.inl (some (.int w1)), (sI M 19 15 (if (d_X8_isSet v1 M) = 0 then (1 : Int32) else (if (d_X8_isSet v2 M) = 0 then (1 : Int32) else (if (d_X8_isElement v3 M) = 0 then (1 : Int32) else (0 : Int32))))))) else none) else none) else some (.inl (some (.int (0 : Int32))), (sI M 19 15 (if (d_X8_isSet v1 M) = 0 then (1 : Int32) else (if (d_X8_isSet v2 M) = 0 then (1 : Int32) else (if (d_X8_isElement v3 M) = 0 then (1 : Int32) else (0 : Int32)))))))
set_option maxHeartbeats 2000000 in
theorem r_X8_ways (v1 : Int32) (v2 : Int32) (v3 : Int32) (M : Mem) : RG C_X8_ways (0, [some (.ref 19), some (.int v1), some (.int v2), some (.int v3)], [], M, 0) (d_X8_ways v1 v2 v3 M) (fun r => .inr r) := by
  unfold d_X8_ways
  refine RG.step (m_X8_ways_2 v1 v2 v3 M) ?_
  refine RG.st 4 (congrFun (congrFun (congrFun (congrFun b_X8_ways_7 v1) v2) v3) M) ?_
  refine RG.ite (fun h1 => RG.brT (q := 44) h1 rfl ?_) (fun h1 => RG.brF (q := 40) h1 rfl ?_)
  · refine RG.st 4 (congrFun (congrFun (congrFun (congrFun b_X8_ways_8 v1) v2) v3) M) ?_
    refine RG.guard (fun h2 => RG.st 1 (stp_g h2 (congrFun (congrFun (congrFun (congrFun b_X8_ways_9 v1) v2) v3) M)) ?_)
    refine RG.st 4 (congrFun (congrFun (congrFun (congrFun b_X8_ways_10 v1) v2) v3) M) ?_
    refine RG.guard (fun h3 => RG.st 1 (stp_g h3 (congrFun (congrFun (congrFun (congrFun b_X8_ways_11 v1) v2) v3) M)) ?_)
    refine RG.st 1 (congrFun (congrFun (congrFun (congrFun b_X8_ways_12 v1) v2) v3) M) ?_
    refine RG.bind (fun w1 h4 => RG.st 1 (run_callV (v := some (.int w1)) rfl rfl rfl rfl rfl (bindI h4)) ?_)
    show RG C_X8_ways (62, [some (.ref 19), some (.int v1), some (.int v2), some (.int v3)], [.int w1], (sI M 19 15 (if (d_X8_isSet v1 M) = 0 then (1 : Int32) else (if (d_X8_isSet v2 M) = 0 then (1 : Int32) else (if (d_X8_isElement v3 M) = 0 then (1 : Int32) else (0 : Int32))))), 0) _ _
    exact RG.fin rfl (Rend.run 1 (congrFun (congrFun (congrFun (congrFun (congrFun b_X8_ways_13 v1) v2) v3) M) w1))
  · exact RG.fin rfl (Rend.run 3 (congrFun (congrFun (congrFun (congrFun b_X8_ways_14 v1) v2) v3) M))
def fn_X8_ways : Fn := fun av M => match av with
  | [.ref r0, .int v1, .int v2, .int v3] => bif Nat.beq r0 19 then (d_X8_ways v1 v2 v3 M) else (none)
  | _ => none
theorem cfg_X8_ways : CfgOK RX8 cX8_ways (C_X8_ways) 4 := ⟨tk_X8_ways, csF_nd, flk_X8, (List.forall_mem_cons.mpr ⟨Or.inr ⟨yX8_isElement, cX8_isElement, 2, (some .boolean), none, 2, ok_X8_isElement, by decide, by decide, w_code_SumsetryModel_isElement__I_Z, w_initialized_SumsetryModel, ⟨by decide, by decide⟩, Or.inr (Or.inr ⟨rfl, rfl, show (parseMethodDescriptor yX8_isElement.desc).map (fun d => d.parameters.length + 1) = some 2 from by decide +kernel, w_methodLink_SumsetryModel_78, w_instanceMethod_SumsetryModel_isElement__I_Z, w_selects_SumsetryModel_isElement__I_Z, ⟨_, rfl, rfl⟩⟩)⟩,
    List.forall_mem_cons.mpr ⟨Or.inr ⟨yX8_isSet, cX8_isSet, 2, (some .boolean), none, 2, ok_X8_isSet, by decide, by decide, w_code_SumsetryModel_isSet__I_Z, w_initialized_SumsetryModel, ⟨by decide, by decide⟩, Or.inr (Or.inr ⟨rfl, rfl, show (parseMethodDescriptor yX8_isSet.desc).map (fun d => d.parameters.length + 1) = some 2 from by decide +kernel, w_methodLink_SumsetryModel_96, w_instanceMethod_SumsetryModel_isSet__I_Z, w_selects_SumsetryModel_isSet__I_Z, ⟨_, rfl, rfl⟩⟩)⟩,
    List.forall_mem_cons.mpr ⟨Or.inr ⟨yX8_waysTo, cX8_waysTo, 10, (some .int), none, 3, ok_X8_waysTo, by decide, by decide, w_code_SumsetryModel_waysTo__JIJI_I, w_initialized_SumsetryModel, ⟨by decide, by decide⟩, Or.inr (Or.inr ⟨rfl, rfl, show (parseMethodDescriptor yX8_waysTo.desc).map (fun d => d.parameters.length + 1) = some 5 from by decide +kernel, w_methodLink_SumsetryModel_103, w_instanceMethod_SumsetryModel_waysTo__JIJI_I, w_selects_SumsetryModel_waysTo__JIJI_I, ⟨_, rfl, rfl⟩⟩)⟩, fun _ h => absurd h List.not_mem_nil⟩⟩⟩), ink_X8, lgk_X8, fun e h => absurd h List.not_mem_nil, (fun h hh => absurd hh List.not_mem_nil)⟩
theorem ok_X8_ways : OkM csF yX8_ways (Cond.code yX8_ways cX8_ways 4 (some .int)) 4 0 fn_X8_ways :=
  OkM_of (own := RX8) (C := C_X8_ways) (by decide +kernel) rfl (cfg_X8_ways) rfl rfl rfl rfl (by
    intro av M o M' h
    unfold fn_X8_ways at h
    split at h
    · rename_i r0 v1 v2 v3
      rcases bif_cs h with ⟨hb, h⟩ | ⟨-, h⟩
      · skip
        have hr0 := hb
        obtain rfl := Nat.eq_of_beq_eq_true hr0
        exact ⟨rfl, Nat.le_of_ble_eq_true rfl, (r_X8_ways v1 v2 v3 M) (o, M') h⟩
      · cases h
    · cases h)
