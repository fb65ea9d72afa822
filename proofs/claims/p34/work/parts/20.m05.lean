/-! methods: X2_compareSums, X2_sumsAhead, X2_sumsWith, X2_noteMap, X2_give -/
def t_X2_compareSums : List (Nat × Instr × Nat) := [(0, .iconst 0, 1), (1, .istore_n 2, 1), (2, .iload_n 2, 1), (3, .aload_n 1, 1), (4, .getfield 59, 3), (7, .if_icmp .ge 18, 3), (10, .aload_n 0, 1), (11, .getfield 30, 3), (14, .iload_n 2, 1), (15, .iconst (-1), 1), (16, .invokestatic 68, 3), (19, .iinc 2 1, 3), (22, .goto (-20), 3), (25, .iconst 0, 1), (26, .istore_n 2, 1), (27, .iconst 0, 1), (28, .istore_n 3, 1), (29, .iload_n 3, 1), (30, .aload_n 0, 1), (31, .getfield 37, 3), (34, .if_icmp .ge 103, 3), (37, .iconst 0, 1), (38, .istore 4, 2), (40, .iload 4, 2), (42, .iload_n 3, 1), (43, .if_icmp .gt 88, 3), (46, .iconst 0, 1), (47, .istore 5, 2), (49, .iload 5, 2), (51, .aload_n 0, 1), (52, .iload 4, 2), (54, .invokevirtual 72, 3), (57, .if_icmp .gt 68, 3), (60, .aload_n 0, 1), (61, .aload_n 1, 1), (62, .aload_n 0, 1), (63, .getfield 9, 3), (66, .iload_n 3, 1), (67, .iload 4, 2), (69, .iload 5, 2), (71, .invokevirtual 76, 3), (74, .istore 6, 2), (76, .aload_n 0, 1), (77, .getfield 30, 3), (80, .iload 6, 2), (82, .invokestatic 55, 3), (85, .iconst (-1), 1), (86, .if_icmp .ne 13, 3), (89, .aload_n 0, 1), (90, .getfield 30, 3), (93, .iload 6, 2), (95, .iload_n 2, 1), (96, .invokestatic 68, 3), (99, .aload_n 0, 1), (100, .getfield 24, 3), (103, .iload_n 2, 1), (104, .aload_n 0, 1), (105, .getfield 30, 3), (108, .iload 6, 2), (110, .invokestatic 55, 3), (113, .invokestatic 68, 3), (116, .iinc 2 1, 3), (119, .iinc 5 1, 3), (122, .goto (-73), 3), (125, .iinc 4 1, 3), (128, .goto (-88), 3), (131, .iinc 3 1, 3), (134, .goto (-105), 3), (137, .return_, 1)]
theorem tk_X2_compareSums : ∀ x ∈ t_X2_compareSums, decode cX2_compareSums x.1 = .ok x.2 := by decide +kernel
def C_X2_compareSums : Cfg := (t_X2_compareSums, csF, fl_X2, [(55, 1, 5, 2, 0, fn_X7_at), (68, 1, 5, 3, 0, fn_X7_lay), (72, 2, 2, 2, 0, fn_X2_lastLow), (76, 2, 2, 6, 0, fn_X2_sumOf)], in_X2, lg_X2, [], [], none, none, 0)
set_option maxRecDepth 100000 in
theorem b_X2_compareSums_0 : (fun (M : Mem) => run C_X2_compareSums 2 (0, [some (.ref 4), some (.ref 2), none, none, none, none, none], [], M, 0)) = (fun (M : Mem) => some (.inl (2, [some (.ref 4), some (.ref 2), some (.int (0 : Int32)), none, none, none, none], [], M, 0))) := by rfl
set_option maxRecDepth 100000 in
theorem b_X2_compareSums_1 : (fun (a1 : (Int32 × Mem)) => run C_X2_compareSums 4 (2, [some (.ref 4), some (.ref 2), some (.int a1.1), none, none, none, none], [], a1.2, 0)) = (fun (a1 : (Int32 × Mem)) => some (.inl ((br (!decide (a1.1 < (a1.2.1 2 2))) 7 3 (18)), [some (.ref 4), some (.ref 2), some (.int a1.1), none, none, none, none], [], a1.2, 0))) := by rfl
set_option maxRecDepth 100000 in
theorem b_X2_compareSums_2 : (fun (a1 : (Int32 × Mem)) => run C_X2_compareSums 7 (10, [some (.ref 4), some (.ref 2), some (.int a1.1), none, none, none, none], [], a1.2, 0)) = (fun (a1 : (Int32 × Mem)) => some (.inl (2, [some (.ref 4), some (.ref 2), some (.int (a1.1 + (1 : Int32))), none, none, none, none], [], ((d_X7_lay 11 36 a1.1 (-1 : Int32)) a1.2), 0))) := by rfl
def g_X2_compareSums_1 : Int32 × Mem → Option ((Int32 × Mem) ⊕ ((Int32 × Mem) ⊕ (Res × Mem))) := fun (a1 : Int32 × Mem) => (if a1.1 < (a1.2.1 2 2) then some (.inl ((a1.1 + (1 : Int32)), ((d_X7_lay 11 36 a1.1 (-1 : Int32)) a1.2))) else some (.inr (.inl (a1.1, a1.2))))
set_option maxHeartbeats 2000000 in
theorem l_X2_compareSums_1 (M : Mem) : ∀ a1 : Int32 × Mem, RG C_X2_compareSums ((fun (a1 : Int32 × Mem) => (2, [some (.ref 4), some (.ref 2), some (.int a1.1), none, none, none, none], [], a1.2, 0)) a1) (g_X2_compareSums_1 a1) (lpP (fun (a1 : Int32 × Mem) => (2, [some (.ref 4), some (.ref 2), some (.int a1.1), none, none, none, none], [], a1.2, 0)) (fun (a1 : Int32 × Mem) => (25, [some (.ref 4), some (.ref 2), some (.int a1.1), none, none, none, none], [], a1.2, 0)) id) := by
  intro a1
  unfold g_X2_compareSums_1
  show RG C_X2_compareSums (2, [some (.ref 4), some (.ref 2), some (.int a1.1), none, none, none, none], [], a1.2, 0) _ _
  refine RG.st 4 (congrFun b_X2_compareSums_1 a1) ?_
  refine RG.ite (fun h1 => RG.brNF (q := 10) h1 rfl ?_) (fun h1 => RG.brNT (q := 25) h1 rfl ?_)
  · refine RG.st 7 (congrFun b_X2_compareSums_2 a1) ?_
    exact RG.to rfl (Rto.refl _)
  · exact RG.to rfl (Rto.refl _)
set_option maxRecDepth 100000 in
theorem b_X2_compareSums_3 : (fun (a2 : (Int32 × Mem)) => run C_X2_compareSums 4 (25, [some (.ref 4), some (.ref 2), some (.int a2.1), none, none, none, none], [], a2.2, 0)) = (fun (a2 : (Int32 × Mem)) => some (.inl (29, [some (.ref 4), some (.ref 2), some (.int (0 : Int32)), some (.int (0 : Int32)), none, none, none], [], a2.2, 0))) := by rfl
set_option maxRecDepth 100000 in
theorem b_X2_compareSums_4 : (fun (a3 : (Int32 × Int32 × Mem)) => run C_X2_compareSums 4 (29, [some (.ref 4), some (.ref 2), some (.int a3.1), some (.int a3.2.1), none, none, none], [], a3.2.2, 0)) = (fun (a3 : (Int32 × Int32 × Mem)) => some (.inl ((br (!decide (a3.2.1 < (a3.2.2.1 4 7))) 34 3 (103)), [some (.ref 4), some (.ref 2), some (.int a3.1), some (.int a3.2.1), none, none, none], [], a3.2.2, 0))) := by rfl
set_option maxRecDepth 100000 in
theorem b_X2_compareSums_5 : (fun (a3 : (Int32 × Int32 × Mem)) => run C_X2_compareSums 2 (37, [some (.ref 4), some (.ref 2), some (.int a3.1), some (.int a3.2.1), none, none, none], [], a3.2.2, 0)) = (fun (a3 : (Int32 × Int32 × Mem)) => some (.inl (40, [some (.ref 4), some (.ref 2), some (.int a3.1), some (.int a3.2.1), some (.int (0 : Int32)), none, none], [], a3.2.2, 0))) := by rfl
set_option maxRecDepth 100000 in
theorem b_X2_compareSums_6 : (fun (a3 : (Int32 × Int32 × Mem)) (a4 : (Int32 × Int32 × Mem)) => run C_X2_compareSums 3 (40, [some (.ref 4), some (.ref 2), some (.int a4.1), some (.int a3.2.1), some (.int a4.2.1), none, none], [], a4.2.2, 0)) = (fun (a3 : (Int32 × Int32 × Mem)) (a4 : (Int32 × Int32 × Mem)) => some (.inl ((br (!decide (a4.2.1 ≤ a3.2.1)) 43 3 (88)), [some (.ref 4), some (.ref 2), some (.int a4.1), some (.int a3.2.1), some (.int a4.2.1), none, none], [], a4.2.2, 0))) := by rfl
set_option maxRecDepth 100000 in
theorem b_X2_compareSums_7 : (fun (a3 : (Int32 × Int32 × Mem)) (a4 : (Int32 × Int32 × Mem)) => run C_X2_compareSums 2 (46, [some (.ref 4), some (.ref 2), some (.int a4.1), some (.int a3.2.1), some (.int a4.2.1), none, none], [], a4.2.2, 0)) = (fun (a3 : (Int32 × Int32 × Mem)) (a4 : (Int32 × Int32 × Mem)) => some (.inl (49, [some (.ref 4), some (.ref 2), some (.int a4.1), some (.int a3.2.1), some (.int a4.2.1), some (.int (0 : Int32)), none], [], a4.2.2, 0))) := by rfl
set_option maxRecDepth 100000 in
theorem b_X2_compareSums_8 : (fun (a3 : (Int32 × Int32 × Mem)) (a4 : (Int32 × Int32 × Mem)) (a5 : (Int32 × Int32 × Mem)) => run C_X2_compareSums 5 (49, [some (.ref 4), some (.ref 2), some (.int a5.1), some (.int a3.2.1), some (.int a4.2.1), some (.int a5.2.1), none], [], a5.2.2, 0)) = (fun (a3 : (Int32 × Int32 × Mem)) (a4 : (Int32 × Int32 × Mem)) (a5 : (Int32 × Int32 × Mem)) => some (.inl ((br (!decide (a5.2.1 ≤ (d_X2_lastLow a4.2.1 a5.2.2))) 57 3 (68)), [some (.ref 4), some (.ref 2), some (.int a5.1), some (.int a3.2.1), some (.int a4.2.1), some (.int a5.2.1), none], [], a5.2.2, 0))) := by rfl
set_option maxRecDepth 100000 in
theorem b_X2_compareSums_9 : (fun (a3 : (Int32 × Int32 × Mem)) (a4 : (Int32 × Int32 × Mem)) (a5 : (Int32 × Int32 × Mem)) => run C_X2_compareSums 15 (60, [some (.ref 4), some (.ref 2), some (.int a5.1), some (.int a3.2.1), some (.int a4.2.1), some (.int a5.2.1), none], [], a5.2.2, 0)) = (fun (a3 : (Int32 × Int32 × Mem)) (a4 : (Int32 × Int32 × Mem)) (a5 : (Int32 × Int32 × Mem)) => some (.inl ((br (!decide ((d_X7_at 11 36 (d_X2_sumOf_k5 a3.2.1 a4.2.1 a5.2.1 a5.2.2) a5.2.2) = (-1 : Int32))) 86 3 (13)), [some (.ref 4), some (.ref 2), some (.int a5.1), some (.int a3.2.1), some (.int a4.2.1), some (.int a5.2.1), some (.int (d_X2_sumOf_k5 a3.2.1 a4.2.1 a5.2.1 a5.2.2))], [], a5.2.2, 0))) := by rfl
set_option maxRecDepth 100000 in
theorem b_X2_compareSums_10 : (fun (a3 : (Int32 × Int32 × Mem)) (a4 : (Int32 × Int32 × Mem)) (a5 : (Int32 × Int32 × Mem)) => run C_X2_compareSums 5 (89, [some (.ref 4), some (.ref 2), some (.int a5.1), some (.int a3.2.1), some (.int a4.2.1), some (.int a5.2.1), some (.int (d_X2_sumOf_k5 a3.2.1 a4.2.1 a5.2.1 a5.2.2))], [], a5.2.2, 0)) = (fun (a3 : (Int32 × Int32 × Mem)) (a4 : (Int32 × Int32 × Mem)) (a5 : (Int32 × Int32 × Mem)) => some (.inl (99, [some (.ref 4), some (.ref 2), some (.int a5.1), some (.int a3.2.1), some (.int a4.2.1), some (.int a5.2.1), some (.int (d_X2_sumOf_k5 a3.2.1 a4.2.1 a5.2.1 a5.2.2))], [], ((d_X7_lay 11 36 (d_X2_sumOf_k5 a3.2.1 a4.2.1 a5.2.1 a5.2.2) a5.1) a5.2.2), 0))) := by rfl
theorem m_X2_compareSums_0 (a3 : (Int32 × Int32 × Mem)) (a4 : (Int32 × Int32 × Mem)) (a5 : (Int32 × Int32 × Mem)) : Rto C_X2_compareSums (60, [some (.ref 4), some (.ref 2), some (.int a5.1), some (.int a3.2.1), some (.int a4.2.1), some (.int a5.2.1), none], [], a5.2.2, 0) (99, [some (.ref 4), some (.ref 2), some (.int a5.1), some (.int a3.2.1), some (.int a4.2.1), some (.int a5.2.1), some (.int (d_X2_sumOf_k5 a3.2.1 a4.2.1 a5.2.1 a5.2.2))], [], (if (d_X7_at 11 36 (d_X2_sumOf_k5 a3.2.1 a4.2.1 a5.2.1 a5.2.2) a5.2.2) = (-1 : Int32) then ((d_X7_lay 11 36 (d_X2_sumOf_k5 a3.2.1 a4.2.1 a5.2.1 a5.2.2) a5.1) a5.2.2) else a5.2.2), 0) := by
  refine Rto.trans (Rto.run 15 (congrFun (congrFun (congrFun b_X2_compareSums_9 a3) a4) a5)) ?_
  by_cases h : (d_X7_at 11 36 (d_X2_sumOf_k5 a3.2.1 a4.2.1 a5.2.1 a5.2.2) a5.2.2) = (-1 : Int32)
  · refine Rto.trans (Rto.brNF (q := 89) h rfl) ?_
    refine Rto.trans (Rto.run 5 (congrFun (congrFun (congrFun b_X2_compareSums_10 a3) a4) a5)) ?_
    exact Rto.eq (by first | (simp only [if_pos h]; done) | rfl | exact absurd rfl h | (simp; done))
  · refine Rto.trans (Rto.brNT (q := 99) h rfl) ?_
    exact Rto.eq (by first | (simp only [if_neg h]; done) | rfl | exact absurd rfl h | (simp; done))
set_option maxRecDepth 100000 in
theorem b_X2_compareSums_11 : (fun (a3 : (Int32 × Int32 × Mem)) (a4 : (Int32 × Int32 × Mem)) (a5 : (Int32 × Int32 × Mem)) => run C_X2_compareSums 11 (99, [some (.ref 4), some (.ref 2), some (.int a5.1), some (.int a3.2.1), some (.int a4.2.1), some (.int a5.2.1), some (.int (d_X2_sumOf_k5 a3.2.1 a4.2.1 a5.2.1 a5.2.2))], [], (if (d_X7_at 11 36 (d_X2_sumOf_k5 a3.2.1 a4.2.1 a5.2.1 a5.2.2) a5.2.2) = (-1 : Int32) then ((d_X7_lay 11 36 (d_X2_sumOf_k5 a3.2.1 a4.2.1 a5.2.1 a5.2.2) a5.1) a5.2.2) else a5.2.2), 0)) = (fun (a3 : (Int32 × Int32 × Mem)) (a4 : (Int32 × Int32 × Mem)) (a5 : (Int32 × Int32 × Mem)) => some (.inl (49, [some (.ref 4), some (.ref 2), some (.int (a5.1 + (1 : Int32))), some (.int a3.2.1), some (.int a4.2.1), some (.int (a5.2.1 + (1 : Int32))), some (.int (d_X2_sumOf_k5 a3.2.1 a4.2.1 a5.2.1 a5.2.2))], [], ((d_X7_lay 9 56 a5.1 (d_X7_at 11 36 (d_X2_sumOf_k5 a3.2.1 a4.2.1 a5.2.1 a5.2.2) (if (d_X7_at 11 36 (d_X2_sumOf_k5 a3.2.1 a4.2.1 a5.2.1 a5.2.2) a5.2.2) = (-1 : Int32) then ((d_X7_lay 11 36 (d_X2_sumOf_k5 a3.2.1 a4.2.1 a5.2.1 a5.2.2) a5.1) a5.2.2) else a5.2.2))) (if (d_X7_at 11 36 (d_X2_sumOf_k5 a3.2.1 a4.2.1 a5.2.1 a5.2.2) a5.2.2) = (-1 : Int32) then ((d_X7_lay 11 36 (d_X2_sumOf_k5 a3.2.1 a4.2.1 a5.2.1 a5.2.2) a5.1) a5.2.2) else a5.2.2)), 0))) := by rfl
def g_X2_compareSums_5 (a3 : (Int32 × Int32 × Mem)) (a4 : (Int32 × Int32 × Mem)) : Int32 × Int32 × Mem → Option ((Int32 × Int32 × Mem) ⊕ ((Int32 × Int32 × Mem) ⊕ (Res × Mem))) := fun (a5 : Int32 × Int32 × Mem) => (if a5.2.1 ≤ (d_X2_lastLow a4.2.1 a5.2.2) then some (.inl ((a5.1 + (1 : Int32)), (a5.2.1 + (1 : Int32)), ((d_X7_lay 9 56 a5.1 (d_X7_at 11 36 (d_X2_sumOf_k5 a3.2.1 a4.2.1 a5.2.1 a5.2.2) (if (d_X7_at 11 36 (d_X2_sumOf_k5 a3.2.1 a4.2.1 a5.2.1 a5.2.2) a5.2.2) = (-1 : Int32) then ((d_X7_lay 11 36 (d_X2_sumOf_k5 a3.2.1 a4.2.1 a5.2.1 a5.2.2) a5.1) a5.2.2) else a5.2.2))) (if (d_X7_at 11 36 (d_X2_sumOf_k5 a3.2.1 a4.2.1 a5.2.1 a5.2.2) a5.2.2) = (-1 : Int32) then ((d_X7_lay 11 36 (d_X2_sumOf_k5 a3.2.1 a4.2.1 a5.2.1 a5.2.2) a5.1) a5.2.2) else a5.2.2)))) else some (.inr (.inl (a5.1, a5.2.1, a5.2.2))))
set_option maxHeartbeats 2000000 in
theorem l_X2_compareSums_5 (M : Mem) (a3 : (Int32 × Int32 × Mem)) (a4 : (Int32 × Int32 × Mem)) : ∀ a5 : Int32 × Int32 × Mem, RG C_X2_compareSums ((fun (a5 : Int32 × Int32 × Mem) => (49, [some (.ref 4), some (.ref 2), some (.int a5.1), some (.int a3.2.1), some (.int a4.2.1), some (.int a5.2.1), none], [], a5.2.2, 0)) a5) (g_X2_compareSums_5 a3 a4 a5) (lpP (fun (a5 : Int32 × Int32 × Mem) => (49, [some (.ref 4), some (.ref 2), some (.int a5.1), some (.int a3.2.1), some (.int a4.2.1), some (.int a5.2.1), none], [], a5.2.2, 0)) (fun (a5 : Int32 × Int32 × Mem) => (125, [some (.ref 4), some (.ref 2), some (.int a5.1), some (.int a3.2.1), some (.int a4.2.1), some (.int a5.2.1), none], [], a5.2.2, 0)) id) := by
  intro a5
  unfold g_X2_compareSums_5
  show RG C_X2_compareSums (49, [some (.ref 4), some (.ref 2), some (.int a5.1), some (.int a3.2.1), some (.int a4.2.1), some (.int a5.2.1), none], [], a5.2.2, 0) _ _
  refine RG.st 5 (congrFun (congrFun (congrFun b_X2_compareSums_8 a3) a4) a5) ?_
  refine RG.ite (fun h4 => RG.brNF (q := 60) h4 rfl ?_) (fun h4 => RG.brNT (q := 125) h4 rfl ?_)
  · refine RG.step (m_X2_compareSums_0 a3 a4 a5) ?_
    refine RG.st 11 (congrFun (congrFun (congrFun b_X2_compareSums_11 a3) a4) a5) ?_
    exact RG.to rfl (Rto.fgt [6] rfl)
  · exact RG.to rfl (Rto.refl _)
set_option maxRecDepth 100000 in
theorem b_X2_compareSums_12 : (fun (a3 : (Int32 × Int32 × Mem)) (a4 : (Int32 × Int32 × Mem)) (a6 : (Int32 × Int32 × Mem)) => run C_X2_compareSums 2 (125, [some (.ref 4), some (.ref 2), some (.int a6.1), some (.int a3.2.1), some (.int a4.2.1), some (.int a6.2.1), none], [], a6.2.2, 0)) = (fun (a3 : (Int32 × Int32 × Mem)) (a4 : (Int32 × Int32 × Mem)) (a6 : (Int32 × Int32 × Mem)) => some (.inl (40, [some (.ref 4), some (.ref 2), some (.int a6.1), some (.int a3.2.1), some (.int (a4.2.1 + (1 : Int32))), some (.int a6.2.1), none], [], a6.2.2, 0))) := by rfl
def g_X2_compareSums_4 (a3 : (Int32 × Int32 × Mem)) : Int32 × Int32 × Mem → Option ((Int32 × Int32 × Mem) ⊕ ((Int32 × Int32 × Mem) ⊕ (Res × Mem))) := fun (a4 : Int32 × Int32 × Mem) => (if a4.2.1 ≤ a3.2.1 then (onIt (iter (g_X2_compareSums_5 a3 a4) 20000 (a4.1, (0 : Int32), a4.2.2)) (fun (a6 : Int32 × Int32 × Mem) => some (.inl (a6.1, (a4.2.1 + (1 : Int32)), a6.2.2))) (fun r => some (.inr (.inr r)))) else some (.inr (.inl (a4.1, a4.2.1, a4.2.2))))
set_option maxHeartbeats 2000000 in
theorem l_X2_compareSums_4 (M : Mem) (a3 : (Int32 × Int32 × Mem)) : ∀ a4 : Int32 × Int32 × Mem, RG C_X2_compareSums ((fun (a4 : Int32 × Int32 × Mem) => (40, [some (.ref 4), some (.ref 2), some (.int a4.1), some (.int a3.2.1), some (.int a4.2.1), none, none], [], a4.2.2, 0)) a4) (g_X2_compareSums_4 a3 a4) (lpP (fun (a4 : Int32 × Int32 × Mem) => (40, [some (.ref 4), some (.ref 2), some (.int a4.1), some (.int a3.2.1), some (.int a4.2.1), none, none], [], a4.2.2, 0)) (fun (a4 : Int32 × Int32 × Mem) => (131, [some (.ref 4), some (.ref 2), some (.int a4.1), some (.int a3.2.1), some (.int a4.2.1), none, none], [], a4.2.2, 0)) id) := by
  intro a4
  unfold g_X2_compareSums_4
  show RG C_X2_compareSums (40, [some (.ref 4), some (.ref 2), some (.int a4.1), some (.int a3.2.1), some (.int a4.2.1), none, none], [], a4.2.2, 0) _ _
  refine RG.st 3 (congrFun (congrFun b_X2_compareSums_6 a3) a4) ?_
  refine RG.ite (fun h3 => RG.brNF (q := 46) h3 rfl ?_) (fun h3 => RG.brNT (q := 131) h3 rfl ?_)
  · refine RG.st 2 (congrFun (congrFun b_X2_compareSums_7 a3) a4) ?_
    refine RG.loop (hd := (fun (a5 : Int32 × Int32 × Mem) => (49, [some (.ref 4), some (.ref 2), some (.int a5.1), some (.int a3.2.1), some (.int a4.2.1), some (.int a5.2.1), none], [], a5.2.2, 0))) (ex := (fun (a5 : Int32 × Int32 × Mem) => (125, [some (.ref 4), some (.ref 2), some (.int a5.1), some (.int a3.2.1), some (.int a4.2.1), some (.int a5.2.1), none], [], a5.2.2, 0))) (rt := id) (l_X2_compareSums_5 M a3 a4) (fun a6 => ?_) (fun r v h => by cases h; rfl)
    show RG C_X2_compareSums (125, [some (.ref 4), some (.ref 2), some (.int a6.1), some (.int a3.2.1), some (.int a4.2.1), some (.int a6.2.1), none], [], a6.2.2, 0) _ _
    refine RG.st 2 (congrFun (congrFun (congrFun b_X2_compareSums_12 a3) a4) a6) ?_
    exact RG.to rfl (Rto.fgt [5] rfl)
  · exact RG.to rfl (Rto.refl _)
set_option maxRecDepth 100000 in
theorem b_X2_compareSums_13 : (fun (a3 : (Int32 × Int32 × Mem)) (a7 : (Int32 × Int32 × Mem)) => run C_X2_compareSums 2 (131, [some (.ref 4), some (.ref 2), some (.int a7.1), some (.int a3.2.1), some (.int a7.2.1), none, none], [], a7.2.2, 0)) = (fun (a3 : (Int32 × Int32 × Mem)) (a7 : (Int32 × Int32 × Mem)) => some (.inl (29, [some (.ref 4), some (.ref 2), some (.int a7.1), some (.int (a3.2.1 + (1 : Int32))), some (.int a7.2.1), none, none], [], a7.2.2, 0))) := by rfl
def g_X2_compareSums_3 : Int32 × Int32 × Mem → Option ((Int32 × Int32 × Mem) ⊕ ((Int32 × Int32 × Mem) ⊕ (Res × Mem))) := fun (a3 : Int32 × Int32 × Mem) => (if a3.2.1 < (a3.2.2.1 4 7) then (onIt (iter (g_X2_compareSums_4 a3) 20000 (a3.1, (0 : Int32), a3.2.2)) (fun (a7 : Int32 × Int32 × Mem) => some (.inl (a7.1, (a3.2.1 + (1 : Int32)), a7.2.2))) (fun r => some (.inr (.inr r)))) else some (.inr (.inl (a3.1, a3.2.1, a3.2.2))))
set_option maxHeartbeats 2000000 in
theorem l_X2_compareSums_3 (M : Mem) (a2 : (Int32 × Mem)) : ∀ a3 : Int32 × Int32 × Mem, RG C_X2_compareSums ((fun (a3 : Int32 × Int32 × Mem) => (29, [some (.ref 4), some (.ref 2), some (.int a3.1), some (.int a3.2.1), none, none, none], [], a3.2.2, 0)) a3) (g_X2_compareSums_3 a3) (lpP (fun (a3 : Int32 × Int32 × Mem) => (29, [some (.ref 4), some (.ref 2), some (.int a3.1), some (.int a3.2.1), none, none, none], [], a3.2.2, 0)) (fun (a3 : Int32 × Int32 × Mem) => (137, [some (.ref 4), some (.ref 2), some (.int a3.1), some (.int a3.2.1), none, none, none], [], a3.2.2, 0)) id) := by
  intro a3
  unfold g_X2_compareSums_3
  show RG C_X2_compareSums (29, [some (.ref 4), some (.ref 2), some (.int a3.1), some (.int a3.2.1), none, none, none], [], a3.2.2, 0) _ _
  refine RG.st 4 (congrFun b_X2_compareSums_4 a3) ?_
  refine RG.ite (fun h2 => RG.brNF (q := 37) h2 rfl ?_) (fun h2 => RG.brNT (q := 137) h2 rfl ?_)
  · refine RG.st 2 (congrFun b_X2_compareSums_5 a3) ?_
    refine RG.loop (hd := (fun (a4 : Int32 × Int32 × Mem) => (40, [some (.ref 4), some (.ref 2), some (.int a4.1), some (.int a3.2.1), some (.int a4.2.1), none, none], [], a4.2.2, 0))) (ex := (fun (a4 : Int32 × Int32 × Mem) => (131, [some (.ref 4), some (.ref 2), some (.int a4.1), some (.int a3.2.1), some (.int a4.2.1), none, none], [], a4.2.2, 0))) (rt := id) (l_X2_compareSums_4 M a3) (fun a7 => ?_) (fun r v h => by cases h; rfl)
    show RG C_X2_compareSums (131, [some (.ref 4), some (.ref 2), some (.int a7.1), some (.int a3.2.1), some (.int a7.2.1), none, none], [], a7.2.2, 0) _ _
    refine RG.st 2 (congrFun (congrFun b_X2_compareSums_13 a3) a7) ?_
    exact RG.to rfl (Rto.fgt [4] rfl)
  · exact RG.to rfl (Rto.refl _)
set_option maxRecDepth 100000 in
theorem b_X2_compareSums_14 : (fun (a8 : (Int32 × Int32 × Mem)) => run C_X2_compareSums 1 (137, [some (.ref 4), some (.ref 2), some (.int a8.1), some (.int a8.2.1), none, none, none], [], a8.2.2, 0)) = (fun (a8 : (Int32 × Int32 × Mem)) => some (.inr (.inl none, a8.2.2, 0))) := by rfl
def d_X2_compareSums (M : Mem) : Option (Res × Mem) := (onIt (iter (g_X2_compareSums_1) 20000 ((0 : Int32), M)) (fun (a2 : Int32 × Mem) => (onIt (iter (g_X2_compareSums_3) 20000 ((0 : Int32), (0 : Int32), a2.2)) (fun (a8 : Int32 × Int32 × Mem) => some (.inl none, a8.2.2)) (fun r => some r))) (fun r => some r))
set_option maxHeartbeats 2000000 in
theorem r_X2_compareSums (M : Mem) : RG C_X2_compareSums (0, [some (.ref 4), some (.ref 2), none, none, none, none, none], [], M, 0) (d_X2_compareSums M) (fun r => .inr r) := by
  unfold d_X2_compareSums
  refine RG.st 2 (congrFun b_X2_compareSums_0 M) ?_
  refine RG.loop (hd := (fun (a1 : Int32 × Mem) => (2, [some (.ref 4), some (.ref 2), some (.int a1.1), none, none, none, none], [], a1.2, 0))) (ex := (fun (a1 : Int32 × Mem) => (25, [some (.ref 4), some (.ref 2), some (.int a1.1), none, none, none, none], [], a1.2, 0))) (rt := id) (l_X2_compareSums_1 M) (fun a2 => ?_) (fun r v h => by cases h; rfl)
  show RG C_X2_compareSums (25, [some (.ref 4), some (.ref 2), some (.int a2.1), none, none, none, none], [], a2.2, 0) _ _
  refine RG.st 4 (congrFun b_X2_compareSums_3 a2) ?_
  refine RG.loop (hd := (fun (a3 : Int32 × Int32 × Mem) => (29, [some (.ref 4), some (.ref 2), some (.int a3.1), some (.int a3.2.1), none, none, none], [], a3.2.2, 0))) (ex := (fun (a3 : Int32 × Int32 × Mem) => (137, [some (.ref 4), some (.ref 2), some (.int a3.1), some (.int a3.2.1), none, none, none], [], a3.2.2, 0))) (rt := id) (l_X2_compareSums_3 M a2) (fun a8 => ?_) (fun r v h => by cases h; rfl)
  show RG C_X2_compareSums (137, [some (.ref 4), some (.ref 2), some (.int a8.1), some (.int a8.2.1), none, none, none], [], a8.2.2, 0) _ _
  exact RG.fin rfl (Rend.run 1 (congrFun b_X2_compareSums_14 a8))
def fn_X2_compareSums : Fn := fun av M => match av with
  | [.ref r0, .ref r1] => bif Nat.beq r0 4 && Nat.beq r1 2 then (d_X2_compareSums M) else (none)
  | _ => none
theorem cfg_X2_compareSums : CfgOK RX2 cX2_compareSums (C_X2_compareSums) 4 := ⟨tk_X2_compareSums, csF_nd, flk_X2, (List.forall_mem_cons.mpr ⟨Or.inr ⟨yX7_at, cX7_at, 2, (some .int), none, 1, ok_X7_at, by decide, by decide, w_code_Sumsetry_at___II_I, w_initialized_Sumsetry, ⟨by decide, by decide⟩, Or.inr (Or.inl ⟨rfl, rfl, show (parseMethodDescriptor yX7_at.desc).map (fun d => d.parameters.length) = some 2 from by decide +kernel, ⟨"Sumsetry", by decide +kernel⟩, w_static_Sumsetry_at___II_I⟩)⟩,
    List.forall_mem_cons.mpr ⟨Or.inr ⟨yX7_lay, cX7_lay, 3, none, none, 1, ok_X7_lay, by decide, by decide, w_code_Sumsetry_lay___III_V, w_initialized_Sumsetry, ⟨by decide, by decide⟩, Or.inr (Or.inl ⟨rfl, rfl, show (parseMethodDescriptor yX7_lay.desc).map (fun d => d.parameters.length) = some 3 from by decide +kernel, ⟨"Sumsetry", by decide +kernel⟩, w_static_Sumsetry_lay___III_V⟩)⟩,
    List.forall_mem_cons.mpr ⟨Or.inr ⟨yX2_lastLow, cX2_lastLow, 2, (some .int), none, 1, ok_X2_lastLow, by decide, by decide, w_code_Sumsetry_Maps_lastLow__I_I, w_initialized_Sumsetry_Maps, ⟨by decide, by decide⟩, Or.inr (Or.inr ⟨rfl, rfl, show (parseMethodDescriptor yX2_lastLow.desc).map (fun d => d.parameters.length + 1) = some 2 from by decide +kernel, w_methodLink_Sumsetry_Maps_72, w_instanceMethod_Sumsetry_Maps_lastLow__I_I, w_selects_Sumsetry_Maps_lastLow__I_I, ⟨_, rfl, rfl⟩⟩)⟩,
    List.forall_mem_cons.mpr ⟨Or.inr ⟨yX2_sumOf, cX2_sumOf, 7, (some .int), none, 3, ok_X2_sumOf, by decide, by decide, w_code_Sumsetry_Maps_sumOf__LSumsetry_Group__IIII_I, w_initialized_Sumsetry_Maps, ⟨by decide, by decide⟩, Or.inr (Or.inr ⟨rfl, rfl, show (parseMethodDescriptor yX2_sumOf.desc).map (fun d => d.parameters.length + 1) = some 6 from by decide +kernel, w_methodLink_Sumsetry_Maps_76, w_instanceMethod_Sumsetry_Maps_sumOf__LSumsetry_Group__IIII_I, w_selects_Sumsetry_Maps_sumOf__LSumsetry_Group__IIII_I, ⟨_, rfl, rfl⟩⟩)⟩, fun _ h => absurd h List.not_mem_nil⟩⟩⟩⟩), ink_X2, lgk_X2, fun e h => absurd h List.not_mem_nil, (fun h hh => absurd hh List.not_mem_nil)⟩
theorem ok_X2_compareSums : OkM csF yX2_compareSums (Cond.code yX2_compareSums cX2_compareSums 7 none) 4 0 fn_X2_compareSums :=
  OkM_of (own := RX2) (C := C_X2_compareSums) (by decide +kernel) rfl (cfg_X2_compareSums) rfl rfl rfl rfl (by
    intro av M o M' h
    unfold fn_X2_compareSums at h
    split at h
    · rename_i r0 r1
      rcases bif_cs h with ⟨hb, h⟩ | ⟨-, h⟩
      · simp only [Bool.and_eq_true] at hb
        obtain ⟨hr0, hr1⟩ := hb
        obtain rfl := Nat.eq_of_beq_eq_true hr0
        obtain rfl := Nat.eq_of_beq_eq_true hr1
        exact ⟨rfl, Nat.le_of_ble_eq_true rfl, (r_X2_compareSums M) (o, M') h⟩
      · cases h
    · cases h)
def t_X2_sumsAhead : List (Nat × Instr × Nat) := [(0, .iload_n 1, 1), (1, .iload_n 1, 1), (2, .iconst 1, 1), (3, .iadd, 1), (4, .imul, 1), (5, .iconst 2, 1), (6, .idiv, 1), (7, .istore_n 2, 1), (8, .aload_n 0, 1), (9, .getfield 41, 3), (12, .iconst 3, 1), (13, .if_icmp .ne 13, 3), (16, .iload_n 2, 1), (17, .iload_n 1, 1), (18, .iconst 2, 1), (19, .iadd, 1), (20, .imul, 1), (21, .iconst 3, 1), (22, .idiv, 1), (23, .goto 4, 3), (26, .iload_n 2, 1), (27, .ireturn, 1)]
theorem tk_X2_sumsAhead : ∀ x ∈ t_X2_sumsAhead, decode cX2_sumsAhead x.1 = .ok x.2 := by decide +kernel
def C_X2_sumsAhead : Cfg := (t_X2_sumsAhead, csF, fl_X2, [], in_X2, lg_X2, [], [], none, (some .int), 0)
set_option maxRecDepth 100000 in
theorem b_X2_sumsAhead_0 : (fun (v1 : Int32) (M : Mem) => run C_X2_sumsAhead 6 (0, [some (.ref 4), some (.int v1), none], [], M, 0)) = (fun (v1 : Int32) (M : Mem) => some (.inl (6, [some (.ref 4), some (.int v1), none], [.int (2 : Int32), .int (v1 * (v1 + (1 : Int32)))], M, 0))) := by rfl
set_option maxRecDepth 100000 in
theorem b_X2_sumsAhead_1 : (fun (v1 : Int32) (M : Mem) => stp C_X2_sumsAhead (6, [some (.ref 4), some (.int v1), none], [.int (2 : Int32), .int (v1 * (v1 + (1 : Int32)))], M, 0)) = (fun (v1 : Int32) (M : Mem) => (if (2 : Int32) = 0 then none else some (.inl (7, [some (.ref 4), some (.int v1), none], [.int ((v1 * (v1 + (1 : Int32))) / (2 : Int32))], M, 0)))) := by rfl
set_option maxRecDepth 100000 in
theorem b_X2_sumsAhead_2 : (fun (v1 : Int32) (M : Mem) => run C_X2_sumsAhead 5 (7, [some (.ref 4), some (.int v1), none], [.int ((v1 * (v1 + (1 : Int32))) / (2 : Int32))], M, 0)) = (fun (v1 : Int32) (M : Mem) => some (.inl ((br (!decide ((M.1 4 8) = (3 : Int32))) 13 3 (13)), [some (.ref 4), some (.int v1), some (.int ((v1 * (v1 + (1 : Int32))) / (2 : Int32)))], [], M, 0))) := by rfl
set_option maxRecDepth 100000 in
theorem b_X2_sumsAhead_3 : (fun (v1 : Int32) (M : Mem) => run C_X2_sumsAhead 6 (16, [some (.ref 4), some (.int v1), some (.int ((v1 * (v1 + (1 : Int32))) / (2 : Int32)))], [], M, 0)) = (fun (v1 : Int32) (M : Mem) => some (.inl (22, [some (.ref 4), some (.int v1), some (.int ((v1 * (v1 + (1 : Int32))) / (2 : Int32)))], [.int (3 : Int32), .int (((v1 * (v1 + (1 : Int32))) / (2 : Int32)) * (v1 + (2 : Int32)))], M, 0))) := by rfl
set_option maxRecDepth 100000 in
theorem b_X2_sumsAhead_4 : (fun (v1 : Int32) (M : Mem) => stp C_X2_sumsAhead (22, [some (.ref 4), some (.int v1), some (.int ((v1 * (v1 + (1 : Int32))) / (2 : Int32)))], [.int (3 : Int32), .int (((v1 * (v1 + (1 : Int32))) / (2 : Int32)) * (v1 + (2 : Int32)))], M, 0)) = (fun (v1 : Int32) (M : Mem) => (if (3 : Int32) = 0 then none else some (.inl (23, [some (.ref 4), some (.int v1), some (.int ((v1 * (v1 + (1 : Int32))) / (2 : Int32)))], [.int ((((v1 * (v1 + (1 : Int32))) / (2 : Int32)) * (v1 + (2 : Int32))) / (3 : Int32))], M, 0)))) := by rfl
set_option maxRecDepth 100000 in
theorem b_X2_sumsAhead_5 : (fun (v1 : Int32) (M : Mem) => run C_X2_sumsAhead 2 (23, [some (.ref 4), some (.int v1), some (.int ((v1 * (v1 + (1 : Int32))) / (2 : Int32)))], [.int ((((v1 * (v1 + (1 : Int32))) / (2 : Int32)) * (v1 + (2 : Int32))) / (3 : Int32))], M, 0)) = (fun (v1 : Int32) (M : Mem) => some (.inr (.inl (some (.int ((((v1 * (v1 + (1 : Int32))) / (2 : Int32)) * (v1 + (2 : Int32))) / (3 : Int32)))), M, 0))) := by rfl
set_option maxRecDepth 100000 in
theorem b_X2_sumsAhead_6 : (fun (v1 : Int32) (M : Mem) => run C_X2_sumsAhead 2 (26, [some (.ref 4), some (.int v1), some (.int ((v1 * (v1 + (1 : Int32))) / (2 : Int32)))], [], M, 0)) = (fun (v1 : Int32) (M : Mem) => some (.inr (.inl (some (.int ((v1 * (v1 + (1 : Int32))) / (2 : Int32)))), M, 0))) := by rfl
def d_X2_sumsAhead (v1 : Int32) (M : Mem) : Int32 := (if (M.1 4 8) = (3 : Int32) then ((((v1 * (v1 + (1 : Int32))) / (2 : Int32)) * (v1 + (2 : Int32))) / (3 : Int32)) else ((v1 * (v1 + (1 : Int32))) / (2 : Int32)))
set_option maxHeartbeats 2000000 in
theorem r_X2_sumsAhead (v1 : Int32) (M : Mem) : RG C_X2_sumsAhead (0, [some (.ref 4), some (.int v1), none], [], M, 0) (some (d_X2_sumsAhead v1 M)) (fun v => .inr (.inl (some (.int v)), M)) := by
  unfold d_X2_sumsAhead
  refine RG.st 6 (congrFun (congrFun b_X2_sumsAhead_0 v1) M) ?_
  have h1 : ¬ ((2 : Int32) = 0) := (by decide)
  refine RG.st 1 (stp_gN h1 (congrFun (congrFun b_X2_sumsAhead_1 v1) M)) ?_
  refine RG.st 5 (congrFun (congrFun b_X2_sumsAhead_2 v1) M) ?_
  refine RG.ites (fun h2 => RG.brNF (q := 16) h2 rfl ?_) (fun h2 => RG.brNT (q := 26) h2 rfl ?_)
  · refine RG.st 6 (congrFun (congrFun b_X2_sumsAhead_3 v1) M) ?_
    have h3 : ¬ ((3 : Int32) = 0) := (by decide)
    refine RG.st 1 (stp_gN h3 (congrFun (congrFun b_X2_sumsAhead_4 v1) M)) ?_
    exact RG.fin rfl (Rend.run 2 (congrFun (congrFun b_X2_sumsAhead_5 v1) M))
  · exact RG.fin rfl (Rend.run 2 (congrFun (congrFun b_X2_sumsAhead_6 v1) M))
def fn_X2_sumsAhead : Fn := fun av M => match av with
  | [.ref r0, .int v1] => bif Nat.beq r0 4 then some (.inl (some (.int (d_X2_sumsAhead v1 M))), M) else (none)
  | _ => none
theorem cfg_X2_sumsAhead : CfgOK RX2 cX2_sumsAhead (C_X2_sumsAhead) 1 := ⟨tk_X2_sumsAhead, csF_nd, flk_X2, (fun e h => absurd h List.not_mem_nil), ink_X2, lgk_X2, fun e h => absurd h List.not_mem_nil, (fun h hh => absurd hh List.not_mem_nil)⟩
theorem ok_X2_sumsAhead : OkM csF yX2_sumsAhead (Cond.code yX2_sumsAhead cX2_sumsAhead 3 (some .int)) 1 0 fn_X2_sumsAhead :=
  OkM_of (own := RX2) (C := C_X2_sumsAhead) (by decide +kernel) rfl (cfg_X2_sumsAhead) rfl rfl rfl rfl (by
    intro av M o M' h
    unfold fn_X2_sumsAhead at h
    split at h
    · rename_i r0 v1
      rcases bif_cs h with ⟨hb, h⟩ | ⟨-, h⟩
      · skip
        have hr0 := hb
        obtain rfl := Nat.eq_of_beq_eq_true hr0
        cases h
        exact ⟨rfl, Nat.le_of_ble_eq_true rfl, (r_X2_sumsAhead v1 M) _ rfl⟩
      · cases h
    · cases h)
def t_X2_sumsWith : List (Nat × Instr × Nat) := [(0, .lload_n 3, 1), (1, .lstore 5, 2), (3, .aload_n 0, 1), (4, .iload_n 2, 1), (5, .invokevirtual 93, 3), (8, .istore 7, 2), (10, .iconst 0, 1), (11, .istore 8, 2), (13, .iload 8, 2), (15, .iload_n 2, 1), (16, .if_icmp .gt 118, 3), (19, .iconst 0, 1), (20, .istore 9, 2), (22, .iload 9, 2), (24, .aload_n 0, 1), (25, .iload 8, 2), (27, .invokevirtual 72, 3), (30, .if_icmp .gt 98, 3), (33, .aload_n 0, 1), (34, .aload_n 1, 1), (35, .aload_n 0, 1), (36, .getfield 18, 3), (39, .iload_n 2, 1), (40, .iload 8, 2), (42, .iload 9, 2), (44, .invokevirtual 76, 3), (47, .istore 10, 2), (49, .aload_n 0, 1), (50, .getfield 24, 3), (53, .iload 7, 2), (55, .invokestatic 55, 3), (58, .istore 11, 2), (60, .iload 11, 2), (62, .iload 7, 2), (64, .if_icmp .ne 16, 3), (67, .lload 5, 2), (69, .iload 10, 2), (71, .invokestatic 64, 3), (74, .ifCond .eq 24, 3), (77, .goto 17, 3), (80, .aload_n 0, 1), (81, .getfield 27, 3), (84, .iload 11, 2), (86, .invokestatic 55, 3), (89, .iload 10, 2), (91, .if_icmp .eq 7, 3), (94, .ldc2_w 80, 3), (97, .lreturn, 1), (98, .aload_n 0, 1), (99, .getfield 27, 3), (102, .iload 7, 2), (104, .iload 10, 2), (106, .invokestatic 68, 3), (109, .lload 5, 2), (111, .iload 10, 2), (113, .invokestatic 89, 3), (116, .lor, 1), (117, .lstore 5, 2), (119, .iinc 7 1, 3), (122, .iinc 9 1, 3), (125, .goto (-103), 3), (128, .iinc 8 1, 3), (131, .goto (-118), 3), (134, .lload 5, 2), (136, .lreturn, 1)]
theorem tk_X2_sumsWith : ∀ x ∈ t_X2_sumsWith, decode cX2_sumsWith x.1 = .ok x.2 := by decide +kernel
def C_X2_sumsWith : Cfg := (t_X2_sumsWith, csF, fl_X2, [(55, 1, 5, 2, 0, fn_X7_at), (64, 1, 5, 2, 0, fn_X7_has), (68, 1, 5, 3, 0, fn_X7_lay), (72, 2, 2, 2, 0, fn_X2_lastLow), (76, 2, 2, 6, 0, fn_X2_sumOf), (89, 1, 5, 1, 0, fn_X7_bit), (93, 2, 2, 2, 0, fn_X2_sumsAhead)], in_X2, lg_X2, [], [], none, (some .long), 0)
set_option maxRecDepth 100000 in
theorem b_X2_sumsWith_0 : (fun (v2 : Int32) (v3 : Int64) (M : Mem) => run C_X2_sumsWith 8 (0, [some (.ref 4), some (.ref 2), some (.int v2), some (.long v3), none, none, none, none, none, none, none, none], [], M, 0)) = (fun (v2 : Int32) (v3 : Int64) (M : Mem) => some (.inl (13, [some (.ref 4), some (.ref 2), some (.int v2), some (.long v3), none, some (.long v3), none, some (.int (d_X2_sumsAhead v2 M)), some (.int (0 : Int32)), none, none, none], [], M, 0))) := by rfl
set_option maxRecDepth 100000 in
theorem b_X2_sumsWith_1 : (fun (v2 : Int32) (v3 : Int64) (a1 : (Int64 × Int32 × Int32 × Mem)) => run C_X2_sumsWith 3 (13, [some (.ref 4), some (.ref 2), some (.int v2), some (.long v3), none, some (.long a1.1), none, some (.int a1.2.1), some (.int a1.2.2.1), none, none, none], [], a1.2.2.2, 0)) = (fun (v2 : Int32) (v3 : Int64) (a1 : (Int64 × Int32 × Int32 × Mem)) => some (.inl ((br (!decide (a1.2.2.1 ≤ v2)) 16 3 (118)), [some (.ref 4), some (.ref 2), some (.int v2), some (.long v3), none, some (.long a1.1), none, some (.int a1.2.1), some (.int a1.2.2.1), none, none, none], [], a1.2.2.2, 0))) := by rfl
set_option maxRecDepth 100000 in
theorem b_X2_sumsWith_2 : (fun (v2 : Int32) (v3 : Int64) (a1 : (Int64 × Int32 × Int32 × Mem)) => run C_X2_sumsWith 2 (19, [some (.ref 4), some (.ref 2), some (.int v2), some (.long v3), none, some (.long a1.1), none, some (.int a1.2.1), some (.int a1.2.2.1), none, none, none], [], a1.2.2.2, 0)) = (fun (v2 : Int32) (v3 : Int64) (a1 : (Int64 × Int32 × Int32 × Mem)) => some (.inl (22, [some (.ref 4), some (.ref 2), some (.int v2), some (.long v3), none, some (.long a1.1), none, some (.int a1.2.1), some (.int a1.2.2.1), some (.int (0 : Int32)), none, none], [], a1.2.2.2, 0))) := by rfl
set_option maxRecDepth 100000 in
theorem b_X2_sumsWith_3 : (fun (v2 : Int32) (v3 : Int64) (a1 : (Int64 × Int32 × Int32 × Mem)) (a2 : (Int64 × Int32 × Int32 × Mem)) => run C_X2_sumsWith 5 (22, [some (.ref 4), some (.ref 2), some (.int v2), some (.long v3), none, some (.long a2.1), none, some (.int a2.2.1), some (.int a1.2.2.1), some (.int a2.2.2.1), none, none], [], a2.2.2.2, 0)) = (fun (v2 : Int32) (v3 : Int64) (a1 : (Int64 × Int32 × Int32 × Mem)) (a2 : (Int64 × Int32 × Int32 × Mem)) => some (.inl ((br (!decide (a2.2.2.1 ≤ (d_X2_lastLow a1.2.2.1 a2.2.2.2))) 30 3 (98)), [some (.ref 4), some (.ref 2), some (.int v2), some (.long v3), none, some (.long a2.1), none, some (.int a2.2.1), some (.int a1.2.2.1), some (.int a2.2.2.1), none, none], [], a2.2.2.2, 0))) := by rfl
set_option maxRecDepth 100000 in
theorem b_X2_sumsWith_4 : (fun (v2 : Int32) (v3 : Int64) (a1 : (Int64 × Int32 × Int32 × Mem)) (a2 : (Int64 × Int32 × Int32 × Mem)) => run C_X2_sumsWith 17 (33, [some (.ref 4), some (.ref 2), some (.int v2), some (.long v3), none, some (.long a2.1), none, some (.int a2.2.1), some (.int a1.2.2.1), some (.int a2.2.2.1), none, none], [], a2.2.2.2, 0)) = (fun (v2 : Int32) (v3 : Int64) (a1 : (Int64 × Int32 × Int32 × Mem)) (a2 : (Int64 × Int32 × Int32 × Mem)) => some (.inl ((br (!decide ((d_X7_at 9 56 a2.2.1 a2.2.2.2) = a2.2.1)) 64 3 (16)), [some (.ref 4), some (.ref 2), some (.int v2), some (.long v3), none, some (.long a2.1), none, some (.int a2.2.1), some (.int a1.2.2.1), some (.int a2.2.2.1), some (.int (d_X2_sumOf_k7 v2 a1.2.2.1 a2.2.2.1 a2.2.2.2)), some (.int (d_X7_at 9 56 a2.2.1 a2.2.2.2))], [], a2.2.2.2, 0))) := by rfl
set_option maxRecDepth 100000 in
theorem b_X2_sumsWith_5 : (fun (v2 : Int32) (v3 : Int64) (a1 : (Int64 × Int32 × Int32 × Mem)) (a2 : (Int64 × Int32 × Int32 × Mem)) => run C_X2_sumsWith 4 (67, [some (.ref 4), some (.ref 2), some (.int v2), some (.long v3), none, some (.long a2.1), none, some (.int a2.2.1), some (.int a1.2.2.1), some (.int a2.2.2.1), some (.int (d_X2_sumOf_k7 v2 a1.2.2.1 a2.2.2.1 a2.2.2.2)), some (.int (d_X7_at 9 56 a2.2.1 a2.2.2.2))], [], a2.2.2.2, 0)) = (fun (v2 : Int32) (v3 : Int64) (a1 : (Int64 × Int32 × Int32 × Mem)) (a2 : (Int64 × Int32 × Int32 × Mem)) => some (.inl ((br (decide ((d_X7_has a2.1 (d_X2_sumOf_k7 v2 a1.2.2.1 a2.2.2.1 a2.2.2.2)) = 0)) 74 3 (24)), [some (.ref 4), some (.ref 2), some (.int v2), some (.long v3), none, some (.long a2.1), none, some (.int a2.2.1), some (.int a1.2.2.1), some (.int a2.2.2.1), some (.int (d_X2_sumOf_k7 v2 a1.2.2.1 a2.2.2.1 a2.2.2.2)), some (.int (d_X7_at 9 56 a2.2.1 a2.2.2.2))], [], a2.2.2.2, 0))) := by rfl
set_option maxRecDepth 100000 in
theorem b_X2_sumsWith_6 : (fun (v2 : Int32) (v3 : Int64) (a1 : (Int64 × Int32 × Int32 × Mem)) (a2 : (Int64 × Int32 × Int32 × Mem)) => run C_X2_sumsWith 13 (98, [some (.ref 4), some (.ref 2), some (.int v2), some (.long v3), none, some (.long a2.1), none, some (.int a2.2.1), some (.int a1.2.2.1), some (.int a2.2.2.1), some (.int (d_X2_sumOf_k7 v2 a1.2.2.1 a2.2.2.1 a2.2.2.2)), some (.int (d_X7_at 9 56 a2.2.1 a2.2.2.2))], [], a2.2.2.2, 0)) = (fun (v2 : Int32) (v3 : Int64) (a1 : (Int64 × Int32 × Int32 × Mem)) (a2 : (Int64 × Int32 × Int32 × Mem)) => some (.inl (22, [some (.ref 4), some (.ref 2), some (.int v2), some (.long v3), none, some (.long (a2.1 ||| (d_X7_bit (d_X2_sumOf_k7 v2 a1.2.2.1 a2.2.2.1 a2.2.2.2)))), none, some (.int (a2.2.1 + (1 : Int32))), some (.int a1.2.2.1), some (.int (a2.2.2.1 + (1 : Int32))), some (.int (d_X2_sumOf_k7 v2 a1.2.2.1 a2.2.2.1 a2.2.2.2)), some (.int (d_X7_at 9 56 a2.2.1 a2.2.2.2))], [], ((d_X7_lay 10 56 a2.2.1 (d_X2_sumOf_k7 v2 a1.2.2.1 a2.2.2.1 a2.2.2.2)) a2.2.2.2), 0))) := by rfl
set_option maxRecDepth 100000 in
theorem b_X2_sumsWith_7 : (fun (v2 : Int32) (v3 : Int64) (a1 : (Int64 × Int32 × Int32 × Mem)) (a2 : (Int64 × Int32 × Int32 × Mem)) => run C_X2_sumsWith 3 (77, [some (.ref 4), some (.ref 2), some (.int v2), some (.long v3), none, some (.long a2.1), none, some (.int a2.2.1), some (.int a1.2.2.1), some (.int a2.2.2.1), some (.int (d_X2_sumOf_k7 v2 a1.2.2.1 a2.2.2.1 a2.2.2.2)), some (.int (d_X7_at 9 56 a2.2.1 a2.2.2.2))], [], a2.2.2.2, 0)) = (fun (v2 : Int32) (v3 : Int64) (a1 : (Int64 × Int32 × Int32 × Mem)) (a2 : (Int64 × Int32 × Int32 × Mem)) => some (.inr (.inl (some (.long (-1 : Int64))), a2.2.2.2, 0))) := by rfl
set_option maxRecDepth 100000 in
theorem b_X2_sumsWith_8 : (fun (v2 : Int32) (v3 : Int64) (a1 : (Int64 × Int32 × Int32 × Mem)) (a2 : (Int64 × Int32 × Int32 × Mem)) => run C_X2_sumsWith 6 (80, [some (.ref 4), some (.ref 2), some (.int v2), some (.long v3), none, some (.long a2.1), none, some (.int a2.2.1), some (.int a1.2.2.1), some (.int a2.2.2.1), some (.int (d_X2_sumOf_k7 v2 a1.2.2.1 a2.2.2.1 a2.2.2.2)), some (.int (d_X7_at 9 56 a2.2.1 a2.2.2.2))], [], a2.2.2.2, 0)) = (fun (v2 : Int32) (v3 : Int64) (a1 : (Int64 × Int32 × Int32 × Mem)) (a2 : (Int64 × Int32 × Int32 × Mem)) => some (.inl ((br (decide ((d_X7_at 10 56 (d_X7_at 9 56 a2.2.1 a2.2.2.2) a2.2.2.2) = (d_X2_sumOf_k7 v2 a1.2.2.1 a2.2.2.1 a2.2.2.2))) 91 3 (7)), [some (.ref 4), some (.ref 2), some (.int v2), some (.long v3), none, some (.long a2.1), none, some (.int a2.2.1), some (.int a1.2.2.1), some (.int a2.2.2.1), some (.int (d_X2_sumOf_k7 v2 a1.2.2.1 a2.2.2.1 a2.2.2.2)), some (.int (d_X7_at 9 56 a2.2.1 a2.2.2.2))], [], a2.2.2.2, 0))) := by rfl
set_option maxRecDepth 100000 in
theorem b_X2_sumsWith_9 : (fun (v2 : Int32) (v3 : Int64) (a1 : (Int64 × Int32 × Int32 × Mem)) (a2 : (Int64 × Int32 × Int32 × Mem)) => run C_X2_sumsWith 13 (98, [some (.ref 4), some (.ref 2), some (.int v2), some (.long v3), none, some (.long a2.1), none, some (.int a2.2.1), some (.int a1.2.2.1), some (.int a2.2.2.1), some (.int (d_X2_sumOf_k7 v2 a1.2.2.1 a2.2.2.1 a2.2.2.2)), some (.int (d_X7_at 9 56 a2.2.1 a2.2.2.2))], [], a2.2.2.2, 0)) = (fun (v2 : Int32) (v3 : Int64) (a1 : (Int64 × Int32 × Int32 × Mem)) (a2 : (Int64 × Int32 × Int32 × Mem)) => some (.inl (22, [some (.ref 4), some (.ref 2), some (.int v2), some (.long v3), none, some (.long (a2.1 ||| (d_X7_bit (d_X2_sumOf_k7 v2 a1.2.2.1 a2.2.2.1 a2.2.2.2)))), none, some (.int (a2.2.1 + (1 : Int32))), some (.int a1.2.2.1), some (.int (a2.2.2.1 + (1 : Int32))), some (.int (d_X2_sumOf_k7 v2 a1.2.2.1 a2.2.2.1 a2.2.2.2)), some (.int (d_X7_at 9 56 a2.2.1 a2.2.2.2))], [], ((d_X7_lay 10 56 a2.2.1 (d_X2_sumOf_k7 v2 a1.2.2.1 a2.2.2.1 a2.2.2.2)) a2.2.2.2), 0))) := by rfl
set_option maxRecDepth 100000 in
theorem b_X2_sumsWith_10 : (fun (v2 : Int32) (v3 : Int64) (a1 : (Int64 × Int32 × Int32 × Mem)) (a2 : (Int64 × Int32 × Int32 × Mem)) => run C_X2_sumsWith 2 (94, [some (.ref 4), some (.ref 2), some (.int v2), some (.long v3), none, some (.long a2.1), none, some (.int a2.2.1), some (.int a1.2.2.1), some (.int a2.2.2.1), some (.int (d_X2_sumOf_k7 v2 a1.2.2.1 a2.2.2.1 a2.2.2.2)), some (.int (d_X7_at 9 56 a2.2.1 a2.2.2.2))], [], a2.2.2.2, 0)) = (fun (v2 : Int32) (v3 : Int64) (a1 : (Int64 × Int32 × Int32 × Mem)) (a2 : (Int64 × Int32 × Int32 × Mem)) => some (.inr (.inl (some (.long (-1 : Int64))), a2.2.2.2, 0))) := by rfl
def g_X2_sumsWith_2 (v2 : Int32) (a1 : (Int64 × Int32 × Int32 × Mem)) : Int64 × Int32 × Int32 × Mem → Option ((Int64 × Int32 × Int32 × Mem) ⊕ ((Int64 × Int32 × Int32 × Mem) ⊕ (Res × Mem))) := fun (a2 : Int64 × Int32 × Int32 × Mem) => (if a2.2.2.1 ≤ (d_X2_lastLow a1.2.2.1 a2.2.2.2) then (if (d_X7_at 9 56 a2.2.1 a2.2.2.2) = a2.2.1 then (if (d_X7_has a2.1 (d_X2_sumOf_k7 v2 a1.2.2.1 a2.2.2.1 a2.2.2.2)) = 0 then some (.inl ((a2.1 ||| (d_X7_bit (d_X2_sumOf_k7 v2 a1.2.2.1 a2.2.2.1 a2.2.2.2))), (a2.2.1 + (1 : Int32)), (a2.2.2.1 + (1 : Int32)), ((d_X7_lay 10 56 a2.2.1 (d_X2_sumOf_k7 v2 a1.2.2.1 a2.2.2.1 a2.2.2.2)) a2.2.2.2))) else some (.inr (.inr (.inl (some (.long (-1 : Int64))), a2.2.2.2)))) else (if (d_X7_at 10 56 (d_X7_at 9 56 a2.2.1 a2.2.2.2) a2.2.2.2) = (d_X2_sumOf_k7 v2 a1.2.2.1 a2.2.2.1 a2.2.2.2) then some (.inl ((a2.1 ||| (d_X7_bit (d_X2_sumOf_k7 v2 a1.2.2.1 a2.2.2.1 a2.2.2.2))), (a2.2.1 + (1 : Int32)), (a2.2.2.1 + (1 : Int32)), ((d_X7_lay 10 56 a2.2.1 (d_X2_sumOf_k7 v2 a1.2.2.1 a2.2.2.1 a2.2.2.2)) a2.2.2.2))) else some (.inr (.inr (.inl (some (.long (-1 : Int64))), a2.2.2.2))))) else some (.inr (.inl (a2.1, a2.2.1, a2.2.2.1, a2.2.2.2))))
set_option maxHeartbeats 2000000 in
theorem l_X2_sumsWith_2 (v2 : Int32) (v3 : Int64) (M : Mem) (a1 : (Int64 × Int32 × Int32 × Mem)) : ∀ a2 : Int64 × Int32 × Int32 × Mem, RG C_X2_sumsWith ((fun (a2 : Int64 × Int32 × Int32 × Mem) => (22, [some (.ref 4), some (.ref 2), some (.int v2), some (.long v3), none, some (.long a2.1), none, some (.int a2.2.1), some (.int a1.2.2.1), some (.int a2.2.2.1), none, none], [], a2.2.2.2, 0)) a2) (g_X2_sumsWith_2 v2 a1 a2) (lpP (fun (a2 : Int64 × Int32 × Int32 × Mem) => (22, [some (.ref 4), some (.ref 2), some (.int v2), some (.long v3), none, some (.long a2.1), none, some (.int a2.2.1), some (.int a1.2.2.1), some (.int a2.2.2.1), none, none], [], a2.2.2.2, 0)) (fun (a2 : Int64 × Int32 × Int32 × Mem) => (128, [some (.ref 4), some (.ref 2), some (.int v2), some (.long v3), none, some (.long a2.1), none, some (.int a2.2.1), some (.int a1.2.2.1), some (.int a2.2.2.1), none, none], [], a2.2.2.2, 0)) id) := by
  intro a2
  unfold g_X2_sumsWith_2
  show RG C_X2_sumsWith (22, [some (.ref 4), some (.ref 2), some (.int v2), some (.long v3), none, some (.long a2.1), none, some (.int a2.2.1), some (.int a1.2.2.1), some (.int a2.2.2.1), none, none], [], a2.2.2.2, 0) _ _
  refine RG.st 5 (congrFun (congrFun (congrFun (congrFun b_X2_sumsWith_3 v2) v3) a1) a2) ?_
  refine RG.ite (fun h2 => RG.brNF (q := 33) h2 rfl ?_) (fun h2 => RG.brNT (q := 128) h2 rfl ?_)
  · refine RG.st 17 (congrFun (congrFun (congrFun (congrFun b_X2_sumsWith_4 v2) v3) a1) a2) ?_
    refine RG.ite (fun h3 => RG.brNF (q := 67) h3 rfl ?_) (fun h3 => RG.brNT (q := 80) h3 rfl ?_)
    · refine RG.st 4 (congrFun (congrFun (congrFun (congrFun b_X2_sumsWith_5 v2) v3) a1) a2) ?_
      refine RG.ite (fun h4 => RG.brT (q := 98) h4 rfl ?_) (fun h4 => RG.brF (q := 77) h4 rfl ?_)
      · refine RG.st 13 (congrFun (congrFun (congrFun (congrFun b_X2_sumsWith_6 v2) v3) a1) a2) ?_
        exact RG.to rfl (Rto.fgt [10, 11] rfl)
      · exact RG.fin rfl (Rend.run 3 (congrFun (congrFun (congrFun (congrFun b_X2_sumsWith_7 v2) v3) a1) a2))
    · refine RG.st 6 (congrFun (congrFun (congrFun (congrFun b_X2_sumsWith_8 v2) v3) a1) a2) ?_
      refine RG.ite (fun h5 => RG.brT (q := 98) h5 rfl ?_) (fun h5 => RG.brF (q := 94) h5 rfl ?_)
      · refine RG.st 13 (congrFun (congrFun (congrFun (congrFun b_X2_sumsWith_9 v2) v3) a1) a2) ?_
        exact RG.to rfl (Rto.fgt [10, 11] rfl)
      · exact RG.fin rfl (Rend.run 2 (congrFun (congrFun (congrFun (congrFun b_X2_sumsWith_10 v2) v3) a1) a2))
  · exact RG.to rfl (Rto.refl _)
set_option maxRecDepth 100000 in
theorem b_X2_sumsWith_11 : (fun (v2 : Int32) (v3 : Int64) (a1 : (Int64 × Int32 × Int32 × Mem)) (a3 : (Int64 × Int32 × Int32 × Mem)) => run C_X2_sumsWith 2 (128, [some (.ref 4), some (.ref 2), some (.int v2), some (.long v3), none, some (.long a3.1), none, some (.int a3.2.1), some (.int a1.2.2.1), some (.int a3.2.2.1), none, none], [], a3.2.2.2, 0)) = (fun (v2 : Int32) (v3 : Int64) (a1 : (Int64 × Int32 × Int32 × Mem)) (a3 : (Int64 × Int32 × Int32 × Mem)) => some (.inl (13, [some (.ref 4), some (.ref 2), some (.int v2), some (.long v3), none, some (.long a3.1), none, some (.int a3.2.1), some (.int (a1.2.2.1 + (1 : Int32))), some (.int a3.2.2.1), none, none], [], a3.2.2.2, 0))) := by rfl
def g_X2_sumsWith_1 (v2 : Int32) : Int64 × Int32 × Int32 × Mem → Option ((Int64 × Int32 × Int32 × Mem) ⊕ ((Int64 × Int32 × Int32 × Mem) ⊕ (Res × Mem))) := fun (a1 : Int64 × Int32 × Int32 × Mem) => (if a1.2.2.1 ≤ v2 then (onIt (iter (g_X2_sumsWith_2 v2 a1) 20000 (a1.1, a1.2.1, (0 : Int32), a1.2.2.2)) (fun (a3 : Int64 × Int32 × Int32 × Mem) => some (.inl (a3.1, a3.2.1, (a1.2.2.1 + (1 : Int32)), a3.2.2.2))) (fun r => some (.inr (.inr r)))) else some (.inr (.inl (a1.1, a1.2.1, a1.2.2.1, a1.2.2.2))))
set_option maxHeartbeats 2000000 in
theorem l_X2_sumsWith_1 (v2 : Int32) (v3 : Int64) (M : Mem) : ∀ a1 : Int64 × Int32 × Int32 × Mem, RG C_X2_sumsWith ((fun (a1 : Int64 × Int32 × Int32 × Mem) => (13, [some (.ref 4), some (.ref 2), some (.int v2), some (.long v3), none, some (.long a1.1), none, some (.int a1.2.1), some (.int a1.2.2.1), none, none, none], [], a1.2.2.2, 0)) a1) (g_X2_sumsWith_1 v2 a1) (lpP (fun (a1 : Int64 × Int32 × Int32 × Mem) => (13, [some (.ref 4), some (.ref 2), some (.int v2), some (.long v3), none, some (.long a1.1), none, some (.int a1.2.1), some (.int a1.2.2.1), none, none, none], [], a1.2.2.2, 0)) (fun (a1 : Int64 × Int32 × Int32 × Mem) => (134, [some (.ref 4), some (.ref 2), some (.int v2), some (.long v3), none, some (.long a1.1), none, some (.int a1.2.1), some (.int a1.2.2.1), none, none, none], [], a1.2.2.2, 0)) id) := by
  intro a1
  unfold g_X2_sumsWith_1
  show RG C_X2_sumsWith (13, [some (.ref 4), some (.ref 2), some (.int v2), some (.long v3), none, some (.long a1.1), none, some (.int a1.2.1), some (.int a1.2.2.1), none, none, none], [], a1.2.2.2, 0) _ _
  refine RG.st 3 (congrFun (congrFun (congrFun b_X2_sumsWith_1 v2) v3) a1) ?_
  refine RG.ite (fun h1 => RG.brNF (q := 19) h1 rfl ?_) (fun h1 => RG.brNT (q := 134) h1 rfl ?_)
  · refine RG.st 2 (congrFun (congrFun (congrFun b_X2_sumsWith_2 v2) v3) a1) ?_
    refine RG.loop (hd := (fun (a2 : Int64 × Int32 × Int32 × Mem) => (22, [some (.ref 4), some (.ref 2), some (.int v2), some (.long v3), none, some (.long a2.1), none, some (.int a2.2.1), some (.int a1.2.2.1), some (.int a2.2.2.1), none, none], [], a2.2.2.2, 0))) (ex := (fun (a2 : Int64 × Int32 × Int32 × Mem) => (128, [some (.ref 4), some (.ref 2), some (.int v2), some (.long v3), none, some (.long a2.1), none, some (.int a2.2.1), some (.int a1.2.2.1), some (.int a2.2.2.1), none, none], [], a2.2.2.2, 0))) (rt := id) (l_X2_sumsWith_2 v2 v3 M a1) (fun a3 => ?_) (fun r v h => by cases h; rfl)
    show RG C_X2_sumsWith (128, [some (.ref 4), some (.ref 2), some (.int v2), some (.long v3), none, some (.long a3.1), none, some (.int a3.2.1), some (.int a1.2.2.1), some (.int a3.2.2.1), none, none], [], a3.2.2.2, 0) _ _
    refine RG.st 2 (congrFun (congrFun (congrFun (congrFun b_X2_sumsWith_11 v2) v3) a1) a3) ?_
    exact RG.to rfl (Rto.fgt [9] rfl)
  · exact RG.to rfl (Rto.refl _)
set_option maxRecDepth 100000 in
theorem b_X2_sumsWith_12 : (fun (v2 : Int32) (v3 : Int64) (a4 : (Int64 × Int32 × Int32 × Mem)) => run C_X2_sumsWith 2 (134, [some (.ref 4), some (.ref 2), some (.int v2), some (.long v3), none, some (.long a4.1), none, some (.int a4.2.1), some (.int a4.2.2.1), none, none, none], [], a4.2.2.2, 0)) = (fun (v2 : Int32) (v3 : Int64) (a4 : (Int64 × Int32 × Int32 × Mem)) => some (.inr (.inl (some (.long a4.1)), a4.2.2.2, 0))) := by rfl
def d_X2_sumsWith (v2 : Int32) (v3 : Int64) (M : Mem) : Option (Res × Mem) := (onIt (iter (g_X2_sumsWith_1 v2) 20000 (v3, (d_X2_sumsAhead v2 M), (0 : Int32), M)) (fun (a4 : Int64 × Int32 × Int32 × Mem) => some (.inl (some (.long a4.1)), a4.2.2.2)) (fun r => some r))
set_option maxHeartbeats 2000000 in
theorem r_X2_sumsWith (v2 : Int32) (v3 : Int64) (M : Mem) : RG C_X2_sumsWith (0, [some (.ref 4), some (.ref 2), some (.int v2), some (.long v3), none, none, none, none, none, none, none, none], [], M, 0) (d_X2_sumsWith v2 v3 M) (fun r => .inr r) := by
  unfold d_X2_sumsWith
  refine RG.st 8 (congrFun (congrFun (congrFun b_X2_sumsWith_0 v2) v3) M) ?_
  refine RG.loop (hd := (fun (a1 : Int64 × Int32 × Int32 × Mem) => (13, [some (.ref 4), some (.ref 2), some (.int v2), some (.long v3), none, some (.long a1.1), none, some (.int a1.2.1), some (.int a1.2.2.1), none, none, none], [], a1.2.2.2, 0))) (ex := (fun (a1 : Int64 × Int32 × Int32 × Mem) => (134, [some (.ref 4), some (.ref 2), some (.int v2), some (.long v3), none, some (.long a1.1), none, some (.int a1.2.1), some (.int a1.2.2.1), none, none, none], [], a1.2.2.2, 0))) (rt := id) (l_X2_sumsWith_1 v2 v3 M) (fun a4 => ?_) (fun r v h => by cases h; rfl)
  show RG C_X2_sumsWith (134, [some (.ref 4), some (.ref 2), some (.int v2), some (.long v3), none, some (.long a4.1), none, some (.int a4.2.1), some (.int a4.2.2.1), none, none, none], [], a4.2.2.2, 0) _ _
  exact RG.fin rfl (Rend.run 2 (congrFun (congrFun (congrFun b_X2_sumsWith_12 v2) v3) a4))
def fn_X2_sumsWith : Fn := fun av M => match av with
  | [.ref r0, .ref r1, .int v2, .long v3] => bif Nat.beq r0 4 && Nat.beq r1 2 then (d_X2_sumsWith v2 v3 M) else (none)
  | _ => none
theorem cfg_X2_sumsWith : CfgOK RX2 cX2_sumsWith (C_X2_sumsWith) 4 := ⟨tk_X2_sumsWith, csF_nd, flk_X2, (List.forall_mem_cons.mpr ⟨Or.inr ⟨yX7_at, cX7_at, 2, (some .int), none, 1, ok_X7_at, by decide, by decide, w_code_Sumsetry_at___II_I, w_initialized_Sumsetry, ⟨by decide, by decide⟩, Or.inr (Or.inl ⟨rfl, rfl, show (parseMethodDescriptor yX7_at.desc).map (fun d => d.parameters.length) = some 2 from by decide +kernel, ⟨"Sumsetry", by decide +kernel⟩, w_static_Sumsetry_at___II_I⟩)⟩,
    List.forall_mem_cons.mpr ⟨Or.inr ⟨yX7_has, cX7_has, 3, (some .boolean), none, 1, ok_X7_has, by decide, by decide, w_code_Sumsetry_has__JI_Z, w_initialized_Sumsetry, ⟨by decide, by decide⟩, Or.inr (Or.inl ⟨rfl, rfl, show (parseMethodDescriptor yX7_has.desc).map (fun d => d.parameters.length) = some 2 from by decide +kernel, ⟨"Sumsetry", by decide +kernel⟩, w_static_Sumsetry_has__JI_Z⟩)⟩,
    List.forall_mem_cons.mpr ⟨Or.inr ⟨yX7_lay, cX7_lay, 3, none, none, 1, ok_X7_lay, by decide, by decide, w_code_Sumsetry_lay___III_V, w_initialized_Sumsetry, ⟨by decide, by decide⟩, Or.inr (Or.inl ⟨rfl, rfl, show (parseMethodDescriptor yX7_lay.desc).map (fun d => d.parameters.length) = some 3 from by decide +kernel, ⟨"Sumsetry", by decide +kernel⟩, w_static_Sumsetry_lay___III_V⟩)⟩,
    List.forall_mem_cons.mpr ⟨Or.inr ⟨yX2_lastLow, cX2_lastLow, 2, (some .int), none, 1, ok_X2_lastLow, by decide, by decide, w_code_Sumsetry_Maps_lastLow__I_I, w_initialized_Sumsetry_Maps, ⟨by decide, by decide⟩, Or.inr (Or.inr ⟨rfl, rfl, show (parseMethodDescriptor yX2_lastLow.desc).map (fun d => d.parameters.length + 1) = some 2 from by decide +kernel, w_methodLink_Sumsetry_Maps_72, w_instanceMethod_Sumsetry_Maps_lastLow__I_I, w_selects_Sumsetry_Maps_lastLow__I_I, ⟨_, rfl, rfl⟩⟩)⟩,
    List.forall_mem_cons.mpr ⟨Or.inr ⟨yX2_sumOf, cX2_sumOf, 7, (some .int), none, 3, ok_X2_sumOf, by decide, by decide, w_code_Sumsetry_Maps_sumOf__LSumsetry_Group__IIII_I, w_initialized_Sumsetry_Maps, ⟨by decide, by decide⟩, Or.inr (Or.inr ⟨rfl, rfl, show (parseMethodDescriptor yX2_sumOf.desc).map (fun d => d.parameters.length + 1) = some 6 from by decide +kernel, w_methodLink_Sumsetry_Maps_76, w_instanceMethod_Sumsetry_Maps_sumOf__LSumsetry_Group__IIII_I, w_selects_Sumsetry_Maps_sumOf__LSumsetry_Group__IIII_I, ⟨_, rfl, rfl⟩⟩)⟩,
    List.forall_mem_cons.mpr ⟨Or.inr ⟨yX7_bit, cX7_bit, 1, (some .long), none, 1, ok_X7_bit, by decide, by decide, w_code_Sumsetry_bit__I_J, w_initialized_Sumsetry, ⟨by decide, by decide⟩, Or.inr (Or.inl ⟨rfl, rfl, show (parseMethodDescriptor yX7_bit.desc).map (fun d => d.parameters.length) = some 1 from by decide +kernel, ⟨"Sumsetry", by decide +kernel⟩, w_static_Sumsetry_bit__I_J⟩)⟩,
    List.forall_mem_cons.mpr ⟨Or.inr ⟨yX2_sumsAhead, cX2_sumsAhead, 3, (some .int), none, 1, ok_X2_sumsAhead, by decide, by decide, w_code_Sumsetry_Maps_sumsAhead__I_I, w_initialized_Sumsetry_Maps, ⟨by decide, by decide⟩, Or.inr (Or.inr ⟨rfl, rfl, show (parseMethodDescriptor yX2_sumsAhead.desc).map (fun d => d.parameters.length + 1) = some 2 from by decide +kernel, w_methodLink_Sumsetry_Maps_93, w_instanceMethod_Sumsetry_Maps_sumsAhead__I_I, w_selects_Sumsetry_Maps_sumsAhead__I_I, ⟨_, rfl, rfl⟩⟩)⟩, fun _ h => absurd h List.not_mem_nil⟩⟩⟩⟩⟩⟩⟩), ink_X2, lgk_X2, fun e h => absurd h List.not_mem_nil, (fun h hh => absurd hh List.not_mem_nil)⟩
theorem ok_X2_sumsWith : OkM csF yX2_sumsWith (Cond.code yX2_sumsWith cX2_sumsWith 12 (some .long)) 4 0 fn_X2_sumsWith :=
  OkM_of (own := RX2) (C := C_X2_sumsWith) (by decide +kernel) rfl (cfg_X2_sumsWith) rfl rfl rfl rfl (by
    intro av M o M' h
    unfold fn_X2_sumsWith at h
    split at h
    · rename_i r0 r1 v2 v3
      rcases bif_cs h with ⟨hb, h⟩ | ⟨-, h⟩
      · simp only [Bool.and_eq_true] at hb
        obtain ⟨hr0, hr1⟩ := hb
        obtain rfl := Nat.eq_of_beq_eq_true hr0
        obtain rfl := Nat.eq_of_beq_eq_true hr1
        exact ⟨rfl, Nat.le_of_ble_eq_true rfl, (r_X2_sumsWith v2 v3 M) (o, M') h⟩
      · cases h
    · cases h)
def t_X2_noteMap : List (Nat × Instr × Nat) := [(0, .aload_n 0, 1), (1, .getfield 44, 3), (4, .ifCond .ne 35, 3), (7, .iconst 0, 1), (8, .istore_n 1, 1), (9, .iload_n 1, 1), (10, .aload_n 0, 1), (11, .getfield 37, 3), (14, .if_icmp .ge 25, 3), (17, .aload_n 0, 1), (18, .getfield 21, 3), (21, .iload_n 1, 1), (22, .aload_n 0, 1), (23, .getfield 18, 3), (26, .iload_n 1, 1), (27, .invokestatic 55, 3), (30, .invokestatic 68, 3), (33, .iinc 1 1, 3), (36, .goto (-27), 3), (39, .aload_n 0, 1), (40, .dup, 1), (41, .getfield 44, 3), (44, .iconst 1, 1), (45, .iadd, 1), (46, .putfield 44, 3), (49, .return_, 1)]
theorem tk_X2_noteMap : ∀ x ∈ t_X2_noteMap, decode cX2_noteMap x.1 = .ok x.2 := by decide +kernel
def C_X2_noteMap : Cfg := (t_X2_noteMap, csF, fl_X2, [(55, 1, 5, 2, 0, fn_X7_at), (68, 1, 5, 3, 0, fn_X7_lay)], in_X2, lg_X2, [], [], none, none, 0)
set_option maxRecDepth 100000 in
theorem b_X2_noteMap_0 : (fun (M : Mem) => run C_X2_noteMap 3 (0, [some (.ref 4), none], [], M, 0)) = (fun (M : Mem) => some (.inl ((br (!decide ((M.1 4 9) = 0)) 4 3 (35)), [some (.ref 4), none], [], M, 0))) := by rfl
set_option maxRecDepth 100000 in
theorem b_X2_noteMap_1 : (fun (M : Mem) => run C_X2_noteMap 2 (7, [some (.ref 4), none], [], M, 0)) = (fun (M : Mem) => some (.inl (9, [some (.ref 4), some (.int (0 : Int32))], [], M, 0))) := by rfl
set_option maxRecDepth 100000 in
theorem b_X2_noteMap_2 : (fun (a1 : (Int32 × Mem)) => run C_X2_noteMap 4 (9, [some (.ref 4), some (.int a1.1)], [], a1.2, 0)) = (fun (a1 : (Int32 × Mem)) => some (.inl ((br (!decide (a1.1 < (a1.2.1 4 7))) 14 3 (25)), [some (.ref 4), some (.int a1.1)], [], a1.2, 0))) := by rfl
set_option maxRecDepth 100000 in
theorem b_X2_noteMap_3 : (fun (a1 : (Int32 × Mem)) => run C_X2_noteMap 10 (17, [some (.ref 4), some (.int a1.1)], [], a1.2, 0)) = (fun (a1 : (Int32 × Mem)) => some (.inl (9, [some (.ref 4), some (.int (a1.1 + (1 : Int32)))], [], ((d_X7_lay 8 6 a1.1 (d_X7_at 7 6 a1.1 a1.2)) a1.2), 0))) := by rfl
def g_X2_noteMap_1 : Int32 × Mem → Option ((Int32 × Mem) ⊕ ((Int32 × Mem) ⊕ (Res × Mem))) := fun (a1 : Int32 × Mem) => (if a1.1 < (a1.2.1 4 7) then some (.inl ((a1.1 + (1 : Int32)), ((d_X7_lay 8 6 a1.1 (d_X7_at 7 6 a1.1 a1.2)) a1.2))) else some (.inr (.inl (a1.1, a1.2))))
set_option maxHeartbeats 2000000 in
theorem l_X2_noteMap_1 (M : Mem) : ∀ a1 : Int32 × Mem, RG C_X2_noteMap ((fun (a1 : Int32 × Mem) => (9, [some (.ref 4), some (.int a1.1)], [], a1.2, 0)) a1) (g_X2_noteMap_1 a1) (lpP (fun (a1 : Int32 × Mem) => (9, [some (.ref 4), some (.int a1.1)], [], a1.2, 0)) (fun (a1 : Int32 × Mem) => (39, [some (.ref 4), some (.int a1.1)], [], a1.2, 0)) id) := by
  intro a1
  unfold g_X2_noteMap_1
  show RG C_X2_noteMap (9, [some (.ref 4), some (.int a1.1)], [], a1.2, 0) _ _
  refine RG.st 4 (congrFun b_X2_noteMap_2 a1) ?_
  refine RG.ite (fun h2 => RG.brNF (q := 17) h2 rfl ?_) (fun h2 => RG.brNT (q := 39) h2 rfl ?_)
  · refine RG.st 10 (congrFun b_X2_noteMap_3 a1) ?_
    exact RG.to rfl (Rto.refl _)
  · exact RG.to rfl (Rto.refl _)
set_option maxRecDepth 100000 in
theorem b_X2_noteMap_4 : (fun (a2 : (Int32 × Mem)) => run C_X2_noteMap 7 (39, [some (.ref 4), some (.int a2.1)], [], a2.2, 0)) = (fun (a2 : (Int32 × Mem)) => some (.inr (.inl none, (sI a2.2 4 9 ((a2.2.1 4 9) + (1 : Int32))), 0))) := by rfl
set_option maxRecDepth 100000 in
theorem b_X2_noteMap_5 : (fun (M : Mem) => run C_X2_noteMap 7 (39, [some (.ref 4), none], [], M, 0)) = (fun (M : Mem) => some (.inr (.inl none, (sI M 4 9 ((M.1 4 9) + (1 : Int32))), 0))) := by rfl
def d_X2_noteMap (M : Mem) : Option (Res × Mem) := (if (M.1 4 9) = 0 then (onIt (iter (g_X2_noteMap_1) 20000 ((0 : Int32), M)) (fun (a2 : Int32 × Mem) => some (.inl none, (sI a2.2 4 9 ((a2.2.1 4 9) + (1 : Int32))))) (fun r => some r)) else some (.inl none, (sI M 4 9 ((M.1 4 9) + (1 : Int32)))))
set_option maxHeartbeats 2000000 in
theorem r_X2_noteMap (M : Mem) : RG C_X2_noteMap (0, [some (.ref 4), none], [], M, 0) (d_X2_noteMap M) (fun r => .inr r) := by
  unfold d_X2_noteMap
  refine RG.st 3 (congrFun b_X2_noteMap_0 M) ?_
  refine RG.ite (fun h1 => RG.brNF (q := 7) h1 rfl ?_) (fun h1 => RG.brNT (q := 39) h1 rfl ?_)
  · refine RG.st 2 (congrFun b_X2_noteMap_1 M) ?_
    refine RG.loop (hd := (fun (a1 : Int32 × Mem) => (9, [some (.ref 4), some (.int a1.1)], [], a1.2, 0))) (ex := (fun (a1 : Int32 × Mem) => (39, [some (.ref 4), some (.int a1.1)], [], a1.2, 0))) (rt := id) (l_X2_noteMap_1 M) (fun a2 => ?_) (fun r v h => by cases h; rfl)
    show RG C_X2_noteMap (39, [some (.ref 4), some (.int a2.1)], [], a2.2, 0) _ _
    exact RG.fin rfl (Rend.run 7 (congrFun b_X2_noteMap_4 a2))
  · exact RG.fin rfl (Rend.run 7 (congrFun b_X2_noteMap_5 M))
def fn_X2_noteMap : Fn := fun av M => match av with
  | [.ref r0] => bif Nat.beq r0 4 then (d_X2_noteMap M) else (none)
  | _ => none
theorem cfg_X2_noteMap : CfgOK RX2 cX2_noteMap (C_X2_noteMap) 2 := ⟨tk_X2_noteMap, csF_nd, flk_X2, (List.forall_mem_cons.mpr ⟨Or.inr ⟨yX7_at, cX7_at, 2, (some .int), none, 1, ok_X7_at, by decide, by decide, w_code_Sumsetry_at___II_I, w_initialized_Sumsetry, ⟨by decide, by decide⟩, Or.inr (Or.inl ⟨rfl, rfl, show (parseMethodDescriptor yX7_at.desc).map (fun d => d.parameters.length) = some 2 from by decide +kernel, ⟨"Sumsetry", by decide +kernel⟩, w_static_Sumsetry_at___II_I⟩)⟩,
    List.forall_mem_cons.mpr ⟨Or.inr ⟨yX7_lay, cX7_lay, 3, none, none, 1, ok_X7_lay, by decide, by decide, w_code_Sumsetry_lay___III_V, w_initialized_Sumsetry, ⟨by decide, by decide⟩, Or.inr (Or.inl ⟨rfl, rfl, show (parseMethodDescriptor yX7_lay.desc).map (fun d => d.parameters.length) = some 3 from by decide +kernel, ⟨"Sumsetry", by decide +kernel⟩, w_static_Sumsetry_lay___III_V⟩)⟩, fun _ h => absurd h List.not_mem_nil⟩⟩), ink_X2, lgk_X2, fun e h => absurd h List.not_mem_nil, (fun h hh => absurd hh List.not_mem_nil)⟩
theorem ok_X2_noteMap : OkM csF yX2_noteMap (Cond.code yX2_noteMap cX2_noteMap 2 none) 2 0 fn_X2_noteMap :=
  OkM_of (own := RX2) (C := C_X2_noteMap) (by decide +kernel) rfl (cfg_X2_noteMap) rfl rfl rfl rfl (by
    intro av M o M' h
    unfold fn_X2_noteMap at h
    split at h
    · rename_i r0
      rcases bif_cs h with ⟨hb, h⟩ | ⟨-, h⟩
      · skip
        have hr0 := hb
        obtain rfl := Nat.eq_of_beq_eq_true hr0
        exact ⟨rfl, Nat.le_of_ble_eq_true rfl, (r_X2_noteMap M) (o, M') h⟩
      · cases h
    · cases h)
def t_X2_give : List (Nat × Instr × Nat) := [(0, .iload_n 2, 1), (1, .aload_n 0, 1), (2, .getfield 37, 3), (5, .if_icmp .ge 9, 3), (8, .iload_n 2, 1), (9, .bipush 6, 2), (11, .if_icmp .lt 4, 3), (14, .return_, 1), (15, .iconst 0, 1), (16, .istore 7, 2), (18, .iload 7, 2), (20, .aload_n 0, 1), (21, .getfield 37, 3), (24, .if_icmp .ge 103, 3), (27, .aload_n 0, 1), (28, .getfield 18, 3), (31, .iload_n 2, 1), (32, .aload_n 0, 1), (33, .getfield 15, 3), (36, .iload 7, 2), (38, .invokestatic 55, 3), (41, .invokestatic 68, 3), (44, .lload_n 3, 1), (45, .iload 7, 2), (47, .invokestatic 64, 3), (50, .ifCond .eq 9, 3), (53, .ldc2_w 80, 3), (56, .goto 11, 3), (59, .aload_n 0, 1), (60, .aload_n 1, 1), (61, .iload_n 2, 1), (62, .lload 5, 2), (64, .invokevirtual 82, 3), (67, .lstore 8, 2), (69, .lload 8, 2), (71, .ldc2_w 80, 3), (74, .lcmp, 1), (75, .ifCond .eq 20, 3), (78, .iload_n 2, 1), (79, .iconst 1, 1), (80, .iadd, 1), (81, .aload_n 0, 1), (82, .getfield 37, 3), (85, .if_icmp .ne 10, 3), (88, .aload_n 0, 1), (89, .invokevirtual 86, 3), (92, .goto 29, 3), (95, .lload 8, 2), (97, .ldc2_w 80, 3), (100, .lcmp, 1), (101, .ifCond .eq 20, 3), (104, .aload_n 0, 1), (105, .aload_n 1, 1), (106, .iload_n 2, 1), (107, .iconst 1, 1), (108, .iadd, 1), (109, .lload_n 3, 1), (110, .iload 7, 2), (112, .invokestatic 89, 3), (115, .lor, 1), (116, .lload 8, 2), (118, .invokestatic 51, 3), (121, .iinc 7 1, 3), (124, .goto (-106), 3), (127, .return_, 1)]
theorem tk_X2_give : ∀ x ∈ t_X2_give, decode cX2_give x.1 = .ok x.2 := by decide +kernel
def g_X2_give_1 (dr : Int32 → Int64 → Int64 → Mem → Option (Res × Mem)) (v2 : Int32) (v3 : Int64) (v5 : Int64) : Int32 × Mem → Option ((Int32 × Mem) ⊕ ((Int32 × Mem) ⊕ (Res × Mem))) := fun (a1 : Int32 × Mem) => (if a1.1 < (a1.2.1 4 7) then (if (d_X7_has v3 a1.1) = 0 then (onL (d_X2_sumsWith v2 v5 ((d_X7_lay 7 6 v2 (d_X7_at 6 6 a1.1 a1.2)) a1.2)) (fun w2 M1 => (if (lg_cmp w2 (-1 : Int64)) = 0 then (if (lg_cmp w2 (-1 : Int64)) = 0 then some (.inl ((a1.1 + (1 : Int32)), M1)) else (onV (dr (v2 + (1 : Int32)) (v3 ||| (d_X7_bit a1.1)) w2 M1) (fun M3 => some (.inl ((a1.1 + (1 : Int32)), M3))) (fun r => some (.inr (.inr r))))) else (if (v2 + (1 : Int32)) = (M1.1 4 7) then (onV (d_X2_noteMap M1) (fun M4 => some (.inl ((a1.1 + (1 : Int32)), M4))) (fun r => some (.inr (.inr r)))) else (if (lg_cmp w2 (-1 : Int64)) = 0 then some (.inl ((a1.1 + (1 : Int32)), M1)) else (onV (dr (v2 + (1 : Int32)) (v3 ||| (d_X7_bit a1.1)) w2 M1) (fun M5 => some (.inl ((a1.1 + (1 : Int32)), M5))) (fun r => some (.inr (.inr r)))))))) (fun r => some (.inr (.inr r)))) else (if (lg_cmp (-1 : Int64) (-1 : Int64)) = 0 then (if (lg_cmp (-1 : Int64) (-1 : Int64)) = 0 then some (.inl ((a1.1 + (1 : Int32)), ((d_X7_lay 7 6 v2 (d_X7_at 6 6 a1.1 a1.2)) a1.2))) else (onV (dr (v2 + (1 : Int32)) (v3 ||| (d_X7_bit a1.1)) (-1 : Int64) ((d_X7_lay 7 6 v2 (d_X7_at 6 6 a1.1 a1.2)) a1.2)) (fun M6 => some (.inl ((a1.1 + (1 : Int32)), M6))) (fun r => some (.inr (.inr r))))) else (if (v2 + (1 : Int32)) = (((d_X7_lay 7 6 v2 (d_X7_at 6 6 a1.1 a1.2)) a1.2).1 4 7) then (onV (d_X2_noteMap ((d_X7_lay 7 6 v2 (d_X7_at 6 6 a1.1 a1.2)) a1.2)) (fun M7 => some (.inl ((a1.1 + (1 : Int32)), M7))) (fun r => some (.inr (.inr r)))) else (if (lg_cmp (-1 : Int64) (-1 : Int64)) = 0 then some (.inl ((a1.1 + (1 : Int32)), ((d_X7_lay 7 6 v2 (d_X7_at 6 6 a1.1 a1.2)) a1.2))) else (onV (dr (v2 + (1 : Int32)) (v3 ||| (d_X7_bit a1.1)) (-1 : Int64) ((d_X7_lay 7 6 v2 (d_X7_at 6 6 a1.1 a1.2)) a1.2)) (fun M8 => some (.inl ((a1.1 + (1 : Int32)), M8))) (fun r => some (.inr (.inr r)))))))) else some (.inr (.inl (a1.1, a1.2))))
def d_X2_give : Nat → Int32 → Int64 → Int64 → Mem → Option (Res × Mem)
  | 0 => fun _ _ _ _ => none
  | fu + 1 => fun v2 v3 v5 M => (if v2 < (M.1 4 7) then (if v2 < (6 : Int32) then (onIt (iter (g_X2_give_1 (d_X2_give fu) v2 v3 v5) 20000 ((0 : Int32), M)) (fun (a2 : Int32 × Mem) => some (.inl none, a2.2)) (fun r => some r)) else some (.inl none, M)) else some (.inl none, M))
def fn_X2_give (fu : Nat) : Fn := fun av M => match av with
  | [.ref r0, .ref r1, .int v2, .long v3, .long v5] => bif Nat.beq r0 4 && Nat.beq r1 2 then (d_X2_give fu v2 v3 v5 M) else (none)
  | _ => none
def C_X2_give (fu : Nat) : Cfg := (t_X2_give, csF, fl_X2, [(51, 0, 2, 5, 0, fn_X2_give fu), (55, 1, 5, 2, 0, fn_X7_at), (64, 1, 5, 2, 0, fn_X7_has), (68, 1, 5, 3, 0, fn_X7_lay), (82, 2, 2, 4, 0, fn_X2_sumsWith), (86, 2, 2, 1, 0, fn_X2_noteMap), (89, 1, 5, 1, 0, fn_X7_bit)], in_X2, lg_X2, [], [], none, none, 0)
set_option maxRecDepth 100000 in
theorem b_X2_give_0 : (fun (fu : Nat) (v2 : Int32) (v3 : Int64) (v5 : Int64) (M : Mem) => run (C_X2_give fu) 4 (0, [some (.ref 4), some (.ref 2), some (.int v2), some (.long v3), none, some (.long v5), none, none, none, none], [], M, 0)) = (fun (fu : Nat) (v2 : Int32) (v3 : Int64) (v5 : Int64) (M : Mem) => some (.inl ((br (!decide (v2 < (M.1 4 7))) 5 3 (9)), [some (.ref 4), some (.ref 2), some (.int v2), some (.long v3), none, some (.long v5), none, none, none, none], [], M, 0))) := by rfl
set_option maxRecDepth 100000 in
theorem b_X2_give_1 : (fun (fu : Nat) (v2 : Int32) (v3 : Int64) (v5 : Int64) (M : Mem) => run (C_X2_give fu) 3 (8, [some (.ref 4), some (.ref 2), some (.int v2), some (.long v3), none, some (.long v5), none, none, none, none], [], M, 0)) = (fun (fu : Nat) (v2 : Int32) (v3 : Int64) (v5 : Int64) (M : Mem) => some (.inl ((br (decide (v2 < (6 : Int32))) 11 3 (4)), [some (.ref 4), some (.ref 2), some (.int v2), some (.long v3), none, some (.long v5), none, none, none, none], [], M, 0))) := by rfl
set_option maxRecDepth 100000 in
theorem b_X2_give_2 : (fun (fu : Nat) (v2 : Int32) (v3 : Int64) (v5 : Int64) (M : Mem) => run (C_X2_give fu) 2 (15, [some (.ref 4), some (.ref 2), some (.int v2), some (.long v3), none, some (.long v5), none, none, none, none], [], M, 0)) = (fun (fu : Nat) (v2 : Int32) (v3 : Int64) (v5 : Int64) (M : Mem) => some (.inl (18, [some (.ref 4), some (.ref 2), some (.int v2), some (.long v3), none, some (.long v5), none, some (.int (0 : Int32)), none, none], [], M, 0))) := by rfl
set_option maxRecDepth 100000 in
theorem b_X2_give_3 : (fun (fu : Nat) (v2 : Int32) (v3 : Int64) (v5 : Int64) (a1 : (Int32 × Mem)) => run (C_X2_give fu) 4 (18, [some (.ref 4), some (.ref 2), some (.int v2), some (.long v3), none, some (.long v5), none, some (.int a1.1), none, none], [], a1.2, 0)) = (fun (fu : Nat) (v2 : Int32) (v3 : Int64) (v5 : Int64) (a1 : (Int32 × Mem)) => some (.inl ((br (!decide (a1.1 < (a1.2.1 4 7))) 24 3 (103)), [some (.ref 4), some (.ref 2), some (.int v2), some (.long v3), none, some (.long v5), none, some (.int a1.1), none, none], [], a1.2, 0))) := by rfl
set_option maxRecDepth 100000 in
theorem b_X2_give_4 : (fun (fu : Nat) (v2 : Int32) (v3 : Int64) (v5 : Int64) (a1 : (Int32 × Mem)) => run (C_X2_give fu) 12 (27, [some (.ref 4), some (.ref 2), some (.int v2), some (.long v3), none, some (.long v5), none, some (.int a1.1), none, none], [], a1.2, 0)) = (fun (fu : Nat) (v2 : Int32) (v3 : Int64) (v5 : Int64) (a1 : (Int32 × Mem)) => some (.inl ((br (decide ((d_X7_has v3 a1.1) = 0)) 50 3 (9)), [some (.ref 4), some (.ref 2), some (.int v2), some (.long v3), none, some (.long v5), none, some (.int a1.1), none, none], [], ((d_X7_lay 7 6 v2 (d_X7_at 6 6 a1.1 a1.2)) a1.2), 0))) := by rfl
set_option maxRecDepth 100000 in
theorem b_X2_give_5 : (fun (fu : Nat) (v2 : Int32) (v3 : Int64) (v5 : Int64) (a1 : (Int32 × Mem)) => run (C_X2_give fu) 4 (59, [some (.ref 4), some (.ref 2), some (.int v2), some (.long v3), none, some (.long v5), none, some (.int a1.1), none, none], [], ((d_X7_lay 7 6 v2 (d_X7_at 6 6 a1.1 a1.2)) a1.2), 0)) = (fun (fu : Nat) (v2 : Int32) (v3 : Int64) (v5 : Int64) (a1 : (Int32 × Mem)) => some (.inl (64, [some (.ref 4), some (.ref 2), some (.int v2), some (.long v3), none, some (.long v5), none, some (.int a1.1), none, none], [.long v5, .int v2, .ref 2, .ref 4], ((d_X7_lay 7 6 v2 (d_X7_at 6 6 a1.1 a1.2)) a1.2), 0))) := by rfl
set_option maxRecDepth 100000 in
theorem b_X2_give_6 : (fun (fu : Nat) (v2 : Int32) (v3 : Int64) (v5 : Int64) (a1 : (Int32 × Mem)) (w2 : Int64) (M1 : Mem) => run (C_X2_give fu) 5 (67, [some (.ref 4), some (.ref 2), some (.int v2), some (.long v3), none, some (.long v5), none, some (.int a1.1), none, none], [.long w2], M1, 0)) = (fun (fu : Nat) (v2 : Int32) (v3 : Int64) (v5 : Int64) (a1 : (Int32 × Mem)) (w2 : Int64) (M1 : Mem) => some (.inl ((br (decide ((lg_cmp w2 (-1 : Int64)) = 0)) 75 3 (20)), [some (.ref 4), some (.ref 2), some (.int v2), some (.long v3), none, some (.long v5), none, some (.int a1.1), some (.long w2), none], [], M1, 0))) := by rfl
set_option maxRecDepth 100000 in
theorem b_X2_give_7 : (fun (fu : Nat) (v2 : Int32) (v3 : Int64) (v5 : Int64) (a1 : (Int32 × Mem)) (w2 : Int64) (M1 : Mem) => run (C_X2_give fu) 4 (95, [some (.ref 4), some (.ref 2), some (.int v2), some (.long v3), none, some (.long v5), none, some (.int a1.1), some (.long w2), none], [], M1, 0)) = (fun (fu : Nat) (v2 : Int32) (v3 : Int64) (v5 : Int64) (a1 : (Int32 × Mem)) (w2 : Int64) (M1 : Mem) => some (.inl ((br (decide ((lg_cmp w2 (-1 : Int64)) = 0)) 101 3 (20)), [some (.ref 4), some (.ref 2), some (.int v2), some (.long v3), none, some (.long v5), none, some (.int a1.1), some (.long w2), none], [], M1, 0))) := by rfl
set_option maxRecDepth 100000 in
theorem b_X2_give_8 : (fun (fu : Nat) (v2 : Int32) (v3 : Int64) (v5 : Int64) (a1 : (Int32 × Mem)) (w2 : Int64) (M1 : Mem) => run (C_X2_give fu) 2 (121, [some (.ref 4), some (.ref 2), some (.int v2), some (.long v3), none, some (.long v5), none, some (.int a1.1), some (.long w2), none], [], M1, 0)) = (fun (fu : Nat) (v2 : Int32) (v3 : Int64) (v5 : Int64) (a1 : (Int32 × Mem)) (w2 : Int64) (M1 : Mem) => some (.inl (18, [some (.ref 4), some (.ref 2), some (.int v2), some (.long v3), none, some (.long v5), none, some (.int (a1.1 + (1 : Int32))), some (.long w2), none], [], M1, 0))) := by rfl
set_option maxRecDepth 100000 in
theorem b_X2_give_9 : (fun (fu : Nat) (v2 : Int32) (v3 : Int64) (v5 : Int64) (a1 : (Int32 × Mem)) (w2 : Int64) (M1 : Mem) => run (C_X2_give fu) 10 (104, [some (.ref 4), some (.ref 2), some (.int v2), some (.long v3), none, some (.long v5), none, some (.int a1.1), some (.long w2), none], [], M1, 0)) = (fun (fu : Nat) (v2 : Int32) (v3 : Int64) (v5 : Int64) (a1 : (Int32 × Mem)) (w2 : Int64) (M1 : Mem) => some (.inl (118, [some (.ref 4), some (.ref 2), some (.int v2), some (.long v3), none, some (.long v5), none, some (.int a1.1), some (.long w2), none], [.long w2, .long (v3 ||| (d_X7_bit a1.1)), .int (v2 + (1 : Int32)), .ref 2, .ref 4], M1, 0))) := by rfl
set_option maxRecDepth 100000 in
theorem b_X2_give_10 : (fun (fu : Nat) (v2 : Int32) (v3 : Int64) (v5 : Int64) (a1 : (Int32 × Mem)) (w2 : Int64) (M3 : Mem) => run (C_X2_give fu) 2 (121, [some (.ref 4), some (.ref 2), some (.int v2), some (.long v3), none, some (.long v5), none, some (.int a1.1), some (.long w2), none], [], M3, 0)) = (fun (fu : Nat) (v2 : Int32) (v3 : Int64) (v5 : Int64) (a1 : (Int32 × Mem)) (w2 : Int64) (M3 : Mem) => some (.inl (18, [some (.ref 4), some (.ref 2), some (.int v2), some (.long v3), none, some (.long v5), none, some (.int (a1.1 + (1 : Int32))), some (.long w2), none], [], M3, 0))) := by rfl
set_option maxRecDepth 100000 in
theorem b_X2_give_11 : (fun (fu : Nat) (v2 : Int32) (v3 : Int64) (v5 : Int64) (a1 : (Int32 × Mem)) (w2 : Int64) (M1 : Mem) => run (C_X2_give fu) 6 (78, [some (.ref 4), some (.ref 2), some (.int v2), some (.long v3), none, some (.long v5), none, some (.int a1.1), some (.long w2), none], [], M1, 0)) = (fun (fu : Nat) (v2 : Int32) (v3 : Int64) (v5 : Int64) (a1 : (Int32 × Mem)) (w2 : Int64) (M1 : Mem) => some (.inl ((br (!decide ((v2 + (1 : Int32)) = (M1.1 4 7))) 85 3 (10)), [some (.ref 4), some (.ref 2), some (.int v2), some (.long v3), none, some (.long v5), none, some (.int a1.1), some (.long w2), none], [], M1, 0))) := by rfl
set_option maxRecDepth 100000 in
theorem b_X2_give_12 : (fun (fu : Nat) (v2 : Int32) (v3 : Int64) (v5 : Int64) (a1 : (Int32 × Mem)) (w2 : Int64) (M1 : Mem) => run (C_X2_give fu) 1 (88, [some (.ref 4), some (.ref 2), some (.int v2), some (.long v3), none, some (.long v5), none, some (.int a1.1), some (.long w2), none], [], M1, 0)) = (fun (fu : Nat) (v2 : Int32) (v3 : Int64) (v5 : Int64) (a1 : (Int32 × Mem)) (w2 : Int64) (M1 : Mem) => some (.inl (89, [some (.ref 4), some (.ref 2), some (.int v2), some (.long v3), none, some (.long v5), none, some (.int a1.1), some (.long w2), none], [.ref 4], M1, 0))) := by rfl
set_option maxRecDepth 100000 in
theorem b_X2_give_13 : (fun (fu : Nat) (v2 : Int32) (v3 : Int64) (v5 : Int64) (a1 : (Int32 × Mem)) (w2 : Int64) (M4 : Mem) => run (C_X2_give fu) 3 (92, [some (.ref 4), some (.ref 2), some (.int v2), some (.long v3), none, some (.long v5), none, some (.int a1.1), some (.long w2), none], [], M4, 0)) = (fun (fu : Nat) (v2 : Int32) (v3 : Int64) (v5 : Int64) (a1 : (Int32 × Mem)) (w2 : Int64) (M4 : Mem) => some (.inl (18, [some (.ref 4), some (.ref 2), some (.int v2), some (.long v3), none, some (.long v5), none, some (.int (a1.1 + (1 : Int32))), some (.long w2), none], [], M4, 0))) := by rfl
set_option maxRecDepth 100000 in
theorem b_X2_give_14 : (fun (fu : Nat) (v2 : Int32) (v3 : Int64) (v5 : Int64) (a1 : (Int32 × Mem)) (w2 : Int64) (M1 : Mem) => run (C_X2_give fu) 4 (95, [some (.ref 4), some (.ref 2), some (.int v2), some (.long v3), none, some (.long v5), none, some (.int a1.1), some (.long w2), none], [], M1, 0)) = (fun (fu : Nat) (v2 : Int32) (v3 : Int64) (v5 : Int64) (a1 : (Int32 × Mem)) (w2 : Int64) (M1 : Mem) => some (.inl ((br (decide ((lg_cmp w2 (-1 : Int64)) = 0)) 101 3 (20)), [some (.ref 4), some (.ref 2), some (.int v2), some (.long v3), none, some (.long v5), none, some (.int a1.1), some (.long w2), none], [], M1, 0))) := by rfl
set_option maxRecDepth 100000 in
theorem b_X2_give_15 : (fun (fu : Nat) (v2 : Int32) (v3 : Int64) (v5 : Int64) (a1 : (Int32 × Mem)) (w2 : Int64) (M1 : Mem) => run (C_X2_give fu) 2 (121, [some (.ref 4), some (.ref 2), some (.int v2), some (.long v3), none, some (.long v5), none, some (.int a1.1), some (.long w2), none], [], M1, 0)) = (fun (fu : Nat) (v2 : Int32) (v3 : Int64) (v5 : Int64) (a1 : (Int32 × Mem)) (w2 : Int64) (M1 : Mem) => some (.inl (18, [some (.ref 4), some (.ref 2), some (.int v2), some (.long v3), none, some (.long v5), none, some (.int (a1.1 + (1 : Int32))), some (.long w2), none], [], M1, 0))) := by rfl
set_option maxRecDepth 100000 in
theorem b_X2_give_16 : (fun (fu : Nat) (v2 : Int32) (v3 : Int64) (v5 : Int64) (a1 : (Int32 × Mem)) (w2 : Int64) (M1 : Mem) => run (C_X2_give fu) 10 (104, [some (.ref 4), some (.ref 2), some (.int v2), some (.long v3), none, some (.long v5), none, some (.int a1.1), some (.long w2), none], [], M1, 0)) = (fun (fu : Nat) (v2 : Int32) (v3 : Int64) (v5 : Int64) (a1 : (Int32 × Mem)) (w2 : Int64) (M1 : Mem) => some (.inl (118, [some (.ref 4), some (.ref 2), some (.int v2), some (.long v3), none, some (.long v5), none, some (.int a1.1), some (.long w2), none], [.long w2, .long (v3 ||| (d_X7_bit a1.1)), .int (v2 + (1 : Int32)), .ref 2, .ref 4], M1, 0))) := by rfl
set_option maxRecDepth 100000 in
theorem b_X2_give_17 : (fun (fu : Nat) (v2 : Int32) (v3 : Int64) (v5 : Int64) (a1 : (Int32 × Mem)) (w2 : Int64) (M5 : Mem) => run (C_X2_give fu) 2 (121, [some (.ref 4), some (.ref 2), some (.int v2), some (.long v3), none, some (.long v5), none, some (.int a1.1), some (.long w2), none], [], M5, 0)) = (fun (fu : Nat) (v2 : Int32) (v3 : Int64) (v5 : Int64) (a1 : (Int32 × Mem)) (w2 : Int64) (M5 : Mem) => some (.inl (18, [some (.ref 4), some (.ref 2), some (.int v2), some (.long v3), none, some (.long v5), none, some (.int (a1.1 + (1 : Int32))), some (.long w2), none], [], M5, 0))) := by rfl
set_option maxRecDepth 100000 in
theorem b_X2_give_18 : (fun (fu : Nat) (v2 : Int32) (v3 : Int64) (v5 : Int64) (a1 : (Int32 × Mem)) => run (C_X2_give fu) 7 (53, [some (.ref 4), some (.ref 2), some (.int v2), some (.long v3), none, some (.long v5), none, some (.int a1.1), none, none], [], ((d_X7_lay 7 6 v2 (d_X7_at 6 6 a1.1 a1.2)) a1.2), 0)) = (fun (fu : Nat) (v2 : Int32) (v3 : Int64) (v5 : Int64) (a1 : (Int32 × Mem)) => some (.inl ((br (decide ((lg_cmp (-1 : Int64) (-1 : Int64)) = 0)) 75 3 (20)), [some (.ref 4), some (.ref 2), some (.int v2), some (.long v3), none, some (.long v5), none, some (.int a1.1), some (.long (-1 : Int64)), none], [], ((d_X7_lay 7 6 v2 (d_X7_at 6 6 a1.1 a1.2)) a1.2), 0))) := by rfl
set_option maxRecDepth 100000 in
theorem b_X2_give_19 : (fun (fu : Nat) (v2 : Int32) (v3 : Int64) (v5 : Int64) (a1 : (Int32 × Mem)) => run (C_X2_give fu) 4 (95, [some (.ref 4), some (.ref 2), some (.int v2), some (.long v3), none, some (.long v5), none, some (.int a1.1), some (.long (-1 : Int64)), none], [], ((d_X7_lay 7 6 v2 (d_X7_at 6 6 a1.1 a1.2)) a1.2), 0)) = (fun (fu : Nat) (v2 : Int32) (v3 : Int64) (v5 : Int64) (a1 : (Int32 × Mem)) => some (.inl ((br (decide ((lg_cmp (-1 : Int64) (-1 : Int64)) = 0)) 101 3 (20)), [some (.ref 4), some (.ref 2), some (.int v2), some (.long v3), none, some (.long v5), none, some (.int a1.1), some (.long (-1 : Int64)), none], [], ((d_X7_lay 7 6 v2 (d_X7_at 6 6 a1.1 a1.2)) a1.2), 0))) := by rfl
set_option maxRecDepth 100000 in
theorem b_X2_give_20 : (fun (fu : Nat) (v2 : Int32) (v3 : Int64) (v5 : Int64) (a1 : (Int32 × Mem)) => run (C_X2_give fu) 2 (121, [some (.ref 4), some (.ref 2), some (.int v2), some (.long v3), none, some (.long v5), none, some (.int a1.1), some (.long (-1 : Int64)), none], [], ((d_X7_lay 7 6 v2 (d_X7_at 6 6 a1.1 a1.2)) a1.2), 0)) = (fun (fu : Nat) (v2 : Int32) (v3 : Int64) (v5 : Int64) (a1 : (Int32 × Mem)) => some (.inl (18, [some (.ref 4), some (.ref 2), some (.int v2), some (.long v3), none, some (.long v5), none, some (.int (a1.1 + (1 : Int32))), some (.long (-1 : Int64)), none], [], ((d_X7_lay 7 6 v2 (d_X7_at 6 6 a1.1 a1.2)) a1.2), 0))) := by rfl
set_option maxRecDepth 100000 in
theorem b_X2_give_21 : (fun (fu : Nat) (v2 : Int32) (v3 : Int64) (v5 : Int64) (a1 : (Int32 × Mem)) => run (C_X2_give fu) 10 (104, [some (.ref 4), some (.ref 2), some (.int v2), some (.long v3), none, some (.long v5), none, some (.int a1.1), some (.long (-1 : Int64)), none], [], ((d_X7_lay 7 6 v2 (d_X7_at 6 6 a1.1 a1.2)) a1.2), 0)) = (fun (fu : Nat) (v2 : Int32) (v3 : Int64) (v5 : Int64) (a1 : (Int32 × Mem)) => some (.inl (118, [some (.ref 4), some (.ref 2), some (.int v2), some (.long v3), none, some (.long v5), none, some (.int a1.1), some (.long (-1 : Int64)), none], [.long (-1 : Int64), .long (v3 ||| (d_X7_bit a1.1)), .int (v2 + (1 : Int32)), .ref 2, .ref 4], ((d_X7_lay 7 6 v2 (d_X7_at 6 6 a1.1 a1.2)) a1.2), 0))) := by rfl
set_option maxRecDepth 100000 in
theorem b_X2_give_22 : (fun (fu : Nat) (v2 : Int32) (v3 : Int64) (v5 : Int64) (a1 : (Int32 × Mem)) (M6 : Mem) => run (C_X2_give fu) 2 (121, [some (.ref 4), some (.ref 2), some (.int v2), some (.long v3), none, some (.long v5), none, some (.int a1.1), some (.long (-1 : Int64)), none], [], M6, 0)) = (fun (fu : Nat) (v2 : Int32) (v3 : Int64) (v5 : Int64) (a1 : (Int32 × Mem)) (M6 : Mem) => some (.inl (18, [some (.ref 4), some (.ref 2), some (.int v2), some (.long v3), none, some (.long v5), none, some (.int (a1.1 + (1 : Int32))), some (.long (-1 : Int64)), none], [], M6, 0))) := by rfl
set_option maxRecDepth 100000 in
theorem b_X2_give_23 : (fun (fu : Nat) (v2 : Int32) (v3 : Int64) (v5 : Int64) (a1 : (Int32 × Mem)) => run (C_X2_give fu) 6 (78, [some (.ref 4), some (.ref 2), some (.int v2), some (.long v3), none, some (.long v5), none, some (.int a1.1), some (.long (-1 : Int64)), none], [], ((d_X7_lay 7 6 v2 (d_X7_at 6 6 a1.1 a1.2)) a1.2), 0)) = (fun (fu : Nat) (v2 : Int32) (v3 : Int64) (v5 : Int64) (a1 : (Int32 × Mem)) => some (.inl ((br (!decide ((v2 + (1 : Int32)) = (((d_X7_lay 7 6 v2 (d_X7_at 6 6 a1.1 a1.2)) a1.2).1 4 7))) 85 3 (10)), [some (.ref 4), some (.ref 2), some (.int v2), some (.long v3), none, some (.long v5), none, some (.int a1.1), some (.long (-1 : Int64)), none], [], ((d_X7_lay 7 6 v2 (d_X7_at 6 6 a1.1 a1.2)) a1.2), 0))) := by rfl
set_option maxRecDepth 100000 in
theorem b_X2_give_24 : (fun (fu : Nat) (v2 : Int32) (v3 : Int64) (v5 : Int64) (a1 : (Int32 × Mem)) => run (C_X2_give fu) 1 (88, [some (.ref 4), some (.ref 2), some (.int v2), some (.long v3), none, some (.long v5), none, some (.int a1.1), some (.long (-1 : Int64)), none], [], ((d_X7_lay 7 6 v2 (d_X7_at 6 6 a1.1 a1.2)) a1.2), 0)) = (fun (fu : Nat) (v2 : Int32) (v3 : Int64) (v5 : Int64) (a1 : (Int32 × Mem)) => some (.inl (89, [some (.ref 4), some (.ref 2), some (.int v2), some (.long v3), none, some (.long v5), none, some (.int a1.1), some (.long (-1 : Int64)), none], [.ref 4], ((d_X7_lay 7 6 v2 (d_X7_at 6 6 a1.1 a1.2)) a1.2), 0))) := by rfl
set_option maxRecDepth 100000 in
theorem b_X2_give_25 : (fun (fu : Nat) (v2 : Int32) (v3 : Int64) (v5 : Int64) (a1 : (Int32 × Mem)) (M7 : Mem) => run (C_X2_give fu) 3 (92, [some (.ref 4), some (.ref 2), some (.int v2), some (.long v3), none, some (.long v5), none, some (.int a1.1), some (.long (-1 : Int64)), none], [], M7, 0)) = (fun (fu : Nat) (v2 : Int32) (v3 : Int64) (v5 : Int64) (a1 : (Int32 × Mem)) (M7 : Mem) => some (.inl (18, [some (.ref 4), some (.ref 2), some (.int v2), some (.long v3), none, some (.long v5), none, some (.int (a1.1 + (1 : Int32))), some (.long (-1 : Int64)), none], [], M7, 0))) := by rfl
set_option maxRecDepth 100000 in
theorem b_X2_give_26 : (fun (fu : Nat) (v2 : Int32) (v3 : Int64) (v5 : Int64) (a1 : (Int32 × Mem)) => run (C_X2_give fu) 4 (95, [some (.ref 4), some (.ref 2), some (.int v2), some (.long v3), none, some (.long v5), none, some (.int a1.1), some (.long (-1 : Int64)), none], [], ((d_X7_lay 7 6 v2 (d_X7_at 6 6 a1.1 a1.2)) a1.2), 0)) = (fun (fu : Nat) (v2 : Int32) (v3 : Int64) (v5 : Int64) (a1 : (Int32 × Mem)) => some (.inl ((br (decide ((lg_cmp (-1 : Int64) (-1 : Int64)) = 0)) 101 3 (20)), [some (.ref 4), some (.ref 2), some (.int v2), some (.long v3), none, some (.long v5), none, some (.int a1.1), some (.long (-1 : Int64)), none], [], ((d_X7_lay 7 6 v2 (d_X7_at 6 6 a1.1 a1.2)) a1.2), 0))) := by rfl
set_option maxRecDepth 100000 in
theorem b_X2_give_27 : (fun (fu : Nat) (v2 : Int32) (v3 : Int64) (v5 : Int64) (a1 : (Int32 × Mem)) => run (C_X2_give fu) 2 (121, [some (.ref 4), some (.ref 2), some (.int v2), some (.long v3), none, some (.long v5), none, some (.int a1.1), some (.long (-1 : Int64)), none], [], ((d_X7_lay 7 6 v2 (d_X7_at 6 6 a1.1 a1.2)) a1.2), 0)) = (fun (fu : Nat) (v2 : Int32) (v3 : Int64) (v5 : Int64) (a1 : (Int32 × Mem)) => some (.inl (18, [some (.ref 4), some (.ref 2), some (.int v2), some (.long v3), none, some (.long v5), none, some (.int (a1.1 + (1 : Int32))), some (.long (-1 : Int64)), none], [], ((d_X7_lay 7 6 v2 (d_X7_at 6 6 a1.1 a1.2)) a1.2), 0))) := by rfl
set_option maxRecDepth 100000 in
theorem b_X2_give_28 : (fun (fu : Nat) (v2 : Int32) (v3 : Int64) (v5 : Int64) (a1 : (Int32 × Mem)) => run (C_X2_give fu) 10 (104, [some (.ref 4), some (.ref 2), some (.int v2), some (.long v3), none, some (.long v5), none, some (.int a1.1), some (.long (-1 : Int64)), none], [], ((d_X7_lay 7 6 v2 (d_X7_at 6 6 a1.1 a1.2)) a1.2), 0)) = (fun (fu : Nat) (v2 : Int32) (v3 : Int64) (v5 : Int64) (a1 : (Int32 × Mem)) => some (.inl (118, [some (.ref 4), some (.ref 2), some (.int v2), some (.long v3), none, some (.long v5), none, some (.int a1.1), some (.long (-1 : Int64)), none], [.long (-1 : Int64), .long (v3 ||| (d_X7_bit a1.1)), .int (v2 + (1 : Int32)), .ref 2, .ref 4], ((d_X7_lay 7 6 v2 (d_X7_at 6 6 a1.1 a1.2)) a1.2), 0))) := by rfl
set_option maxRecDepth 100000 in
theorem b_X2_give_29 : (fun (fu : Nat) (v2 : Int32) (v3 : Int64) (v5 : Int64) (a1 : (Int32 × Mem)) (M8 : Mem) => run (C_X2_give fu) 2 (121, [some (.ref 4), some (.ref 2), some (.int v2), some (.long v3), none, some (.long v5), none, some (.int a1.1), some (.long (-1 : Int64)), none], [], M8, 0)) = (fun (fu : Nat) (v2 : Int32) (v3 : Int64) (v5 : Int64) (a1 : (Int32 × Mem)) (M8 : Mem) => some (.inl (18, [some (.ref 4), some (.ref 2), some (.int v2), some (.long v3), none, some (.long v5), none, some (.int (a1.1 + (1 : Int32))), some (.long (-1 : Int64)), none], [], M8, 0))) := by rfl
set_option maxHeartbeats 2000000 in
theorem l_X2_give_1 (fu : Nat) (v2 : Int32) (v3 : Int64) (v5 : Int64) (M : Mem) : ∀ a1 : Int32 × Mem, RG (C_X2_give fu) ((fun (a1 : Int32 × Mem) => (18, [some (.ref 4), some (.ref 2), some (.int v2), some (.long v3), none, some (.long v5), none, some (.int a1.1), none, none], [], a1.2, 0)) a1) (g_X2_give_1 (d_X2_give fu) v2 v3 v5 a1) (lpP (fun (a1 : Int32 × Mem) => (18, [some (.ref 4), some (.ref 2), some (.int v2), some (.long v3), none, some (.long v5), none, some (.int a1.1), none, none], [], a1.2, 0)) (fun (a1 : Int32 × Mem) => (127, [some (.ref 4), some (.ref 2), some (.int v2), some (.long v3), none, some (.long v5), none, some (.int a1.1), none, none], [], a1.2, 0)) id) := by
  intro a1
  unfold g_X2_give_1
  show RG (C_X2_give fu) (18, [some (.ref 4), some (.ref 2), some (.int v2), some (.long v3), none, some (.long v5), none, some (.int a1.1), none, none], [], a1.2, 0) _ _
  refine RG.st 4 (congrFun (congrFun (congrFun (congrFun (congrFun b_X2_give_3 fu) v2) v3) v5) a1) ?_
  refine RG.ite (fun h3 => RG.brNF (q := 27) h3 rfl ?_) (fun h3 => RG.brNT (q := 127) h3 rfl ?_)
  · refine RG.st 12 (congrFun (congrFun (congrFun (congrFun (congrFun b_X2_give_4 fu) v2) v3) v5) a1) ?_
    refine RG.ite (fun h4 => RG.brT (q := 59) h4 rfl ?_) (fun h4 => RG.brF (q := 53) h4 rfl ?_)
    · refine RG.st 4 (congrFun (congrFun (congrFun (congrFun (congrFun b_X2_give_5 fu) v2) v3) v5) a1) ?_
      refine RG.callL (fun w2 M1 h5 => RG.st 1 (run_callV (v := (some (.long w2))) rfl rfl rfl rfl rfl h5) ?_) (fun E M1 h5 => RG.fin rfl (Rend.run 1 (run_callVx rfl rfl rfl rfl rfl h5 rfl)))
      show RG (C_X2_give fu) (67, [some (.ref 4), some (.ref 2), some (.int v2), some (.long v3), none, some (.long v5), none, some (.int a1.1), none, none], [.long w2], M1, 0) _ _
      refine RG.st 5 (congrFun (congrFun (congrFun (congrFun (congrFun (congrFun (congrFun b_X2_give_6 fu) v2) v3) v5) a1) w2) M1) ?_
      refine RG.ite (fun h6 => RG.brT (q := 95) h6 rfl ?_) (fun h6 => RG.brF (q := 78) h6 rfl ?_)
      · refine RG.st 4 (congrFun (congrFun (congrFun (congrFun (congrFun (congrFun (congrFun b_X2_give_7 fu) v2) v3) v5) a1) w2) M1) ?_
        refine RG.ite (fun h7 => RG.brT (q := 121) h7 rfl ?_) (fun h7 => RG.brF (q := 104) h7 rfl ?_)
        · refine RG.st 2 (congrFun (congrFun (congrFun (congrFun (congrFun (congrFun (congrFun b_X2_give_8 fu) v2) v3) v5) a1) w2) M1) ?_
          exact RG.to rfl (Rto.fgt [8] rfl)
        · refine RG.st 10 (congrFun (congrFun (congrFun (congrFun (congrFun (congrFun (congrFun b_X2_give_9 fu) v2) v3) v5) a1) w2) M1) ?_
          refine RG.callV (fun M3 h8 => RG.st 1 (run_callS (v := none) rfl rfl rfl rfl h8) ?_) (fun E M3 h8 => RG.fin rfl (Rend.run 1 (run_callSx rfl rfl rfl rfl h8 rfl)))
          show RG (C_X2_give fu) (121, [some (.ref 4), some (.ref 2), some (.int v2), some (.long v3), none, some (.long v5), none, some (.int a1.1), some (.long w2), none], [], M3, 0) _ _
          refine RG.st 2 (congrFun (congrFun (congrFun (congrFun (congrFun (congrFun (congrFun b_X2_give_10 fu) v2) v3) v5) a1) w2) M3) ?_
          exact RG.to rfl (Rto.fgt [8] rfl)
      · refine RG.st 6 (congrFun (congrFun (congrFun (congrFun (congrFun (congrFun (congrFun b_X2_give_11 fu) v2) v3) v5) a1) w2) M1) ?_
        refine RG.ite (fun h9 => RG.brNF (q := 88) h9 rfl ?_) (fun h9 => RG.brNT (q := 95) h9 rfl ?_)
        · refine RG.st 1 (congrFun (congrFun (congrFun (congrFun (congrFun (congrFun (congrFun b_X2_give_12 fu) v2) v3) v5) a1) w2) M1) ?_
          refine RG.callV (fun M4 h10 => RG.st 1 (run_callV (v := none) rfl rfl rfl rfl rfl h10) ?_) (fun E M4 h10 => RG.fin rfl (Rend.run 1 (run_callVx rfl rfl rfl rfl rfl h10 rfl)))
          show RG (C_X2_give fu) (92, [some (.ref 4), some (.ref 2), some (.int v2), some (.long v3), none, some (.long v5), none, some (.int a1.1), some (.long w2), none], [], M4, 0) _ _
          refine RG.st 3 (congrFun (congrFun (congrFun (congrFun (congrFun (congrFun (congrFun b_X2_give_13 fu) v2) v3) v5) a1) w2) M4) ?_
          exact RG.to rfl (Rto.fgt [8] rfl)
        · refine RG.st 4 (congrFun (congrFun (congrFun (congrFun (congrFun (congrFun (congrFun b_X2_give_14 fu) v2) v3) v5) a1) w2) M1) ?_
          refine RG.ite (fun h11 => RG.brT (q := 121) h11 rfl ?_) (fun h11 => RG.brF (q := 104) h11 rfl ?_)
          · refine RG.st 2 (congrFun (congrFun (congrFun (congrFun (congrFun (congrFun (congrFun b_X2_give_15 fu) v2) v3) v5) a1) w2) M1) ?_
            exact RG.to rfl (Rto.fgt [8] rfl)
          · refine RG.st 10 (congrFun (congrFun (congrFun (congrFun (congrFun (congrFun (congrFun b_X2_give_16 fu) v2) v3) v5) a1) w2) M1) ?_
            refine RG.callV (fun M5 h12 => RG.st 1 (run_callS (v := none) rfl rfl rfl rfl h12) ?_) (fun E M5 h12 => RG.fin rfl (Rend.run 1 (run_callSx rfl rfl rfl rfl h12 rfl)))
            show RG (C_X2_give fu) (121, [some (.ref 4), some (.ref 2), some (.int v2), some (.long v3), none, some (.long v5), none, some (.int a1.1), some (.long w2), none], [], M5, 0) _ _
            refine RG.st 2 (congrFun (congrFun (congrFun (congrFun (congrFun (congrFun (congrFun b_X2_give_17 fu) v2) v3) v5) a1) w2) M5) ?_
            exact RG.to rfl (Rto.fgt [8] rfl)
    · refine RG.st 7 (congrFun (congrFun (congrFun (congrFun (congrFun b_X2_give_18 fu) v2) v3) v5) a1) ?_
      refine RG.ite (fun h13 => RG.brT (q := 95) h13 rfl ?_) (fun h13 => RG.brF (q := 78) h13 rfl ?_)
      · refine RG.st 4 (congrFun (congrFun (congrFun (congrFun (congrFun b_X2_give_19 fu) v2) v3) v5) a1) ?_
        refine RG.ite (fun h14 => RG.brT (q := 121) h14 rfl ?_) (fun h14 => RG.brF (q := 104) h14 rfl ?_)
        · refine RG.st 2 (congrFun (congrFun (congrFun (congrFun (congrFun b_X2_give_20 fu) v2) v3) v5) a1) ?_
          exact RG.to rfl (Rto.fgt [8] rfl)
        · refine RG.st 10 (congrFun (congrFun (congrFun (congrFun (congrFun b_X2_give_21 fu) v2) v3) v5) a1) ?_
          refine RG.callV (fun M6 h15 => RG.st 1 (run_callS (v := none) rfl rfl rfl rfl h15) ?_) (fun E M6 h15 => RG.fin rfl (Rend.run 1 (run_callSx rfl rfl rfl rfl h15 rfl)))
          show RG (C_X2_give fu) (121, [some (.ref 4), some (.ref 2), some (.int v2), some (.long v3), none, some (.long v5), none, some (.int a1.1), some (.long (-1 : Int64)), none], [], M6, 0) _ _
          refine RG.st 2 (congrFun (congrFun (congrFun (congrFun (congrFun (congrFun b_X2_give_22 fu) v2) v3) v5) a1) M6) ?_
          exact RG.to rfl (Rto.fgt [8] rfl)
      · refine RG.st 6 (congrFun (congrFun (congrFun (congrFun (congrFun b_X2_give_23 fu) v2) v3) v5) a1) ?_
        refine RG.ite (fun h16 => RG.brNF (q := 88) h16 rfl ?_) (fun h16 => RG.brNT (q := 95) h16 rfl ?_)
        · refine RG.st 1 (congrFun (congrFun (congrFun (congrFun (congrFun b_X2_give_24 fu) v2) v3) v5) a1) ?_
          refine RG.callV (fun M7 h17 => RG.st 1 (run_callV (v := none) rfl rfl rfl rfl rfl h17) ?_) (fun E M7 h17 => RG.fin rfl (Rend.run 1 (run_callVx rfl rfl rfl rfl rfl h17 rfl)))
          show RG (C_X2_give fu) (92, [some (.ref 4), some (.ref 2), some (.int v2), some (.long v3), none, some (.long v5), none, some (.int a1.1), some (.long (-1 : Int64)), none], [], M7, 0) _ _
          refine RG.st 3 (congrFun (congrFun (congrFun (congrFun (congrFun (congrFun b_X2_give_25 fu) v2) v3) v5) a1) M7) ?_
          exact RG.to rfl (Rto.fgt [8] rfl)
        · refine RG.st 4 (congrFun (congrFun (congrFun (congrFun (congrFun b_X2_give_26 fu) v2) v3) v5) a1) ?_
          refine RG.ite (fun h18 => RG.brT (q := 121) h18 rfl ?_) (fun h18 => RG.brF (q := 104) h18 rfl ?_)
          · refine RG.st 2 (congrFun (congrFun (congrFun (congrFun (congrFun b_X2_give_27 fu) v2) v3) v5) a1) ?_
            exact RG.to rfl (Rto.fgt [8] rfl)
          · refine RG.st 10 (congrFun (congrFun (congrFun (congrFun (congrFun b_X2_give_28 fu) v2) v3) v5) a1) ?_
            refine RG.callV (fun M8 h19 => RG.st 1 (run_callS (v := none) rfl rfl rfl rfl h19) ?_) (fun E M8 h19 => RG.fin rfl (Rend.run 1 (run_callSx rfl rfl rfl rfl h19 rfl)))
            show RG (C_X2_give fu) (121, [some (.ref 4), some (.ref 2), some (.int v2), some (.long v3), none, some (.long v5), none, some (.int a1.1), some (.long (-1 : Int64)), none], [], M8, 0) _ _
            refine RG.st 2 (congrFun (congrFun (congrFun (congrFun (congrFun (congrFun b_X2_give_29 fu) v2) v3) v5) a1) M8) ?_
            exact RG.to rfl (Rto.fgt [8] rfl)
  · exact RG.to rfl (Rto.refl _)
set_option maxRecDepth 100000 in
theorem b_X2_give_30 : (fun (fu : Nat) (v2 : Int32) (v3 : Int64) (v5 : Int64) (a2 : (Int32 × Mem)) => run (C_X2_give fu) 1 (127, [some (.ref 4), some (.ref 2), some (.int v2), some (.long v3), none, some (.long v5), none, some (.int a2.1), none, none], [], a2.2, 0)) = (fun (fu : Nat) (v2 : Int32) (v3 : Int64) (v5 : Int64) (a2 : (Int32 × Mem)) => some (.inr (.inl none, a2.2, 0))) := by rfl
set_option maxRecDepth 100000 in
theorem b_X2_give_31 : (fun (fu : Nat) (v2 : Int32) (v3 : Int64) (v5 : Int64) (M : Mem) => run (C_X2_give fu) 1 (14, [some (.ref 4), some (.ref 2), some (.int v2), some (.long v3), none, some (.long v5), none, none, none, none], [], M, 0)) = (fun (fu : Nat) (v2 : Int32) (v3 : Int64) (v5 : Int64) (M : Mem) => some (.inr (.inl none, M, 0))) := by rfl
set_option maxRecDepth 100000 in
theorem b_X2_give_32 : (fun (fu : Nat) (v2 : Int32) (v3 : Int64) (v5 : Int64) (M : Mem) => run (C_X2_give fu) 1 (14, [some (.ref 4), some (.ref 2), some (.int v2), some (.long v3), none, some (.long v5), none, none, none, none], [], M, 0)) = (fun (fu : Nat) (v2 : Int32) (v3 : Int64) (v5 : Int64) (M : Mem) => some (.inr (.inl none, M, 0))) := by rfl
set_option maxHeartbeats 2000000 in
theorem r_X2_give (fu : Nat) (v2 : Int32) (v3 : Int64) (v5 : Int64) (M : Mem) : RG (C_X2_give fu) (0, [some (.ref 4), some (.ref 2), some (.int v2), some (.long v3), none, some (.long v5), none, none, none, none], [], M, 0) (d_X2_give (fu + 1) v2 v3 v5 M) (fun r => .inr r) := by
  show RG _ _ ((if v2 < (M.1 4 7) then (if v2 < (6 : Int32) then (onIt (iter (g_X2_give_1 (d_X2_give fu) v2 v3 v5) 20000 ((0 : Int32), M)) (fun (a2 : Int32 × Mem) => some (.inl none, a2.2)) (fun r => some r)) else some (.inl none, M)) else some (.inl none, M))) _
  refine RG.st 4 (congrFun (congrFun (congrFun (congrFun (congrFun b_X2_give_0 fu) v2) v3) v5) M) ?_
  refine RG.ite (fun h1 => RG.brNF (q := 8) h1 rfl ?_) (fun h1 => RG.brNT (q := 14) h1 rfl ?_)
  · refine RG.st 3 (congrFun (congrFun (congrFun (congrFun (congrFun b_X2_give_1 fu) v2) v3) v5) M) ?_
    refine RG.ite (fun h2 => RG.brT (q := 15) h2 rfl ?_) (fun h2 => RG.brF (q := 14) h2 rfl ?_)
    · refine RG.st 2 (congrFun (congrFun (congrFun (congrFun (congrFun b_X2_give_2 fu) v2) v3) v5) M) ?_
      refine RG.loop (hd := (fun (a1 : Int32 × Mem) => (18, [some (.ref 4), some (.ref 2), some (.int v2), some (.long v3), none, some (.long v5), none, some (.int a1.1), none, none], [], a1.2, 0))) (ex := (fun (a1 : Int32 × Mem) => (127, [some (.ref 4), some (.ref 2), some (.int v2), some (.long v3), none, some (.long v5), none, some (.int a1.1), none, none], [], a1.2, 0))) (rt := id) (l_X2_give_1 fu v2 v3 v5 M) (fun a2 => ?_) (fun r v h => by cases h; rfl)
      show RG (C_X2_give fu) (127, [some (.ref 4), some (.ref 2), some (.int v2), some (.long v3), none, some (.long v5), none, some (.int a2.1), none, none], [], a2.2, 0) _ _
      exact RG.fin rfl (Rend.run 1 (congrFun (congrFun (congrFun (congrFun (congrFun b_X2_give_30 fu) v2) v3) v5) a2))
    · exact RG.fin rfl (Rend.run 1 (congrFun (congrFun (congrFun (congrFun (congrFun b_X2_give_31 fu) v2) v3) v5) M))
  · exact RG.fin rfl (Rend.run 1 (congrFun (congrFun (congrFun (congrFun (congrFun b_X2_give_32 fu) v2) v3) v5) M))
theorem cfg_X2_give (fu : Nat) (ih : OkM csF yX2_give (Cond.code yX2_give cX2_give 10 none) (5 + fu) 0 (fn_X2_give fu)) : CfgOK RX2 cX2_give (C_X2_give fu) (5 + fu + 1) := ⟨tk_X2_give, csF_nd, flk_X2, (List.forall_mem_cons.mpr ⟨Or.inr ⟨yX2_give, cX2_give, 10, none, none, (5 + fu), ih, by omega, by decide, w_code_Sumsetry_Maps_give__LSumsetry_Maps_LSumsetry_Group_IJJ_V, w_initialized_Sumsetry_Maps, ⟨by decide, by decide⟩, Or.inl ⟨rfl, show (parseMethodDescriptor yX2_give.desc).map (fun d => d.parameters.length) = some 5 from by decide +kernel, w_methodLink_Sumsetry_Maps_51, w_static_Sumsetry_Maps_give__LSumsetry_Maps_LSumsetry_Group_IJJ_V⟩⟩,
    List.forall_mem_cons.mpr ⟨Or.inr ⟨yX7_at, cX7_at, 2, (some .int), none, 1, ok_X7_at, by omega, by decide, w_code_Sumsetry_at___II_I, w_initialized_Sumsetry, ⟨by decide, by decide⟩, Or.inr (Or.inl ⟨rfl, rfl, show (parseMethodDescriptor yX7_at.desc).map (fun d => d.parameters.length) = some 2 from by decide +kernel, ⟨"Sumsetry", by decide +kernel⟩, w_static_Sumsetry_at___II_I⟩)⟩,
    List.forall_mem_cons.mpr ⟨Or.inr ⟨yX7_has, cX7_has, 3, (some .boolean), none, 1, ok_X7_has, by omega, by decide, w_code_Sumsetry_has__JI_Z, w_initialized_Sumsetry, ⟨by decide, by decide⟩, Or.inr (Or.inl ⟨rfl, rfl, show (parseMethodDescriptor yX7_has.desc).map (fun d => d.parameters.length) = some 2 from by decide +kernel, ⟨"Sumsetry", by decide +kernel⟩, w_static_Sumsetry_has__JI_Z⟩)⟩,
    List.forall_mem_cons.mpr ⟨Or.inr ⟨yX7_lay, cX7_lay, 3, none, none, 1, ok_X7_lay, by omega, by decide, w_code_Sumsetry_lay___III_V, w_initialized_Sumsetry, ⟨by decide, by decide⟩, Or.inr (Or.inl ⟨rfl, rfl, show (parseMethodDescriptor yX7_lay.desc).map (fun d => d.parameters.length) = some 3 from by decide +kernel, ⟨"Sumsetry", by decide +kernel⟩, w_static_Sumsetry_lay___III_V⟩)⟩,
    List.forall_mem_cons.mpr ⟨Or.inr ⟨yX2_sumsWith, cX2_sumsWith, 12, (some .long), none, 4, ok_X2_sumsWith, by omega, by decide, w_code_Sumsetry_Maps_sumsWith__LSumsetry_Group_IJ_J, w_initialized_Sumsetry_Maps, ⟨by decide, by decide⟩, Or.inr (Or.inr ⟨rfl, rfl, show (parseMethodDescriptor yX2_sumsWith.desc).map (fun d => d.parameters.length + 1) = some 4 from by decide +kernel, w_methodLink_Sumsetry_Maps_82, w_instanceMethod_Sumsetry_Maps_sumsWith__LSumsetry_Group_IJ_J, w_selects_Sumsetry_Maps_sumsWith__LSumsetry_Group_IJ_J, ⟨_, rfl, rfl⟩⟩)⟩,
    List.forall_mem_cons.mpr ⟨Or.inr ⟨yX2_noteMap, cX2_noteMap, 2, none, none, 2, ok_X2_noteMap, by omega, by decide, w_code_Sumsetry_Maps_noteMap___V, w_initialized_Sumsetry_Maps, ⟨by decide, by decide⟩, Or.inr (Or.inr ⟨rfl, rfl, show (parseMethodDescriptor yX2_noteMap.desc).map (fun d => d.parameters.length + 1) = some 1 from by decide +kernel, w_methodLink_Sumsetry_Maps_86, w_instanceMethod_Sumsetry_Maps_noteMap___V, w_selects_Sumsetry_Maps_noteMap___V, ⟨_, rfl, rfl⟩⟩)⟩,
    List.forall_mem_cons.mpr ⟨Or.inr ⟨yX7_bit, cX7_bit, 1, (some .long), none, 1, ok_X7_bit, by omega, by decide, w_code_Sumsetry_bit__I_J, w_initialized_Sumsetry, ⟨by decide, by decide⟩, Or.inr (Or.inl ⟨rfl, rfl, show (parseMethodDescriptor yX7_bit.desc).map (fun d => d.parameters.length) = some 1 from by decide +kernel, ⟨"Sumsetry", by decide +kernel⟩, w_static_Sumsetry_bit__I_J⟩)⟩, fun _ h => absurd h List.not_mem_nil⟩⟩⟩⟩⟩⟩⟩), ink_X2, lgk_X2, fun e h => absurd h List.not_mem_nil, (fun h hh => absurd hh List.not_mem_nil)⟩
theorem ok_X2_give : ∀ fu : Nat, OkM csF yX2_give (Cond.code yX2_give cX2_give 10 none) (5 + fu) 0 (fn_X2_give fu)
  | 0 => fun l hl G sz av M o M' h => by
    exfalso
    unfold fn_X2_give at h
    split at h
    · rcases bif_cs h with ⟨hb, h⟩ | ⟨-, h⟩ <;> cases h
    · cases h
  | fu + 1 => by
    have ih := ok_X2_give fu
    exact OkM_of (own := RX2) (C := C_X2_give fu) (by decide +kernel) rfl (cfg_X2_give fu ih) rfl rfl rfl rfl (by
    intro av M o M' h
    unfold fn_X2_give at h
    split at h
    · rename_i r0 r1 v2 v3 v5
      rcases bif_cs h with ⟨hb, h⟩ | ⟨-, h⟩
      · simp only [Bool.and_eq_true] at hb
        obtain ⟨hr0, hr1⟩ := hb
        obtain rfl := Nat.eq_of_beq_eq_true hr0
        obtain rfl := Nat.eq_of_beq_eq_true hr1
        exact ⟨rfl, Nat.le_of_ble_eq_true rfl, (r_X2_give fu v2 v3 v5 M) (o, M') h⟩
      · cases h
    · cases h)
