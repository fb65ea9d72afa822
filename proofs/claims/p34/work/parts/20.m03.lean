/-! methods: X0_winning, X7_share, X1_multiple, X1_begin, X1_hasAll, X1_plus, X1_multiples, X1_sumOf, X1_differenceOf -/
def t_X0_winning : List (Nat × Instr × Nat) := [(0, .aload_n 1, 1), (1, .getfield 15, 3), (4, .l2i, 1), (5, .istore 4, 2), (7, .iload 4, 2), (9, .iload_n 2, 1), (10, .if_icmp .le 42, 3), (13, .iload 4, 2), (15, .iload_n 2, 1), (16, .iand, 1), (17, .iload_n 2, 1), (18, .if_icmp .ne 28, 3), (21, .aload_n 0, 1), (22, .getfield 9, 3), (25, .iload 4, 2), (27, .aload_n 0, 1), (28, .aload_n 1, 1), (29, .iload 4, 2), (31, .iload_n 3, 1), (32, .invokevirtual 21, 3), (35, .ifCond .eq 7, 3), (38, .iconst 1, 1), (39, .goto 4, 3), (42, .iconst 0, 1), (43, .invokestatic 25, 3), (46, .iinc 4 (-1), 3), (49, .goto (-42), 3), (52, .lconst 0, 1), (53, .lstore 4, 2), (55, .iconst 0, 1), (56, .istore 6, 2), (58, .iload 6, 2), (60, .aload_n 1, 1), (61, .getfield 29, 3), (64, .if_icmp .ge 29, 3), (67, .aload_n 0, 1), (68, .iload_n 2, 1), (69, .iload 6, 2), (71, .invokevirtual 33, 3), (74, .ifCond .eq 13, 3), (77, .lload 4, 2), (79, .iload 6, 2), (81, .invokestatic 37, 3), (84, .lor, 1), (85, .lstore 4, 2), (87, .iinc 6 1, 3), (90, .goto (-32), 3), (93, .lload 4, 2), (95, .lreturn, 1)]
theorem tk_X0_winning : ∀ x ∈ t_X0_winning, decode cX0_winning x.1 = .ok x.2 := by decide +kernel
def C_X0_winning : Cfg := (t_X0_winning, csF, fl_X0, [(21, 2, 0, 4, 0, fn_X0_isLost), (25, 1, 5, 3, 0, fn_X7_lay), (33, 2, 0, 3, 0, fn_X0_leadsToLost), (37, 1, 5, 1, 0, fn_X7_bit)], in_X0, lg_X0, [], [], none, (some .long), 0)
set_option maxRecDepth 100000 in
theorem b_X0_winning_0 : (fun (v2 : Int32) (v3 : Int32) (M : Mem) => run C_X0_winning 4 (0, [some (.ref 12), some (.ref 2), some (.int v2), some (.int v3), none, none, none], [], M, 0)) = (fun (v2 : Int32) (v3 : Int32) (M : Mem) => some (.inl (7, [some (.ref 12), some (.ref 2), some (.int v2), some (.int v3), some (.int ((M.2 2 3).toInt32)), none, none], [], M, 0))) := by rfl
set_option maxRecDepth 100000 in
theorem b_X0_winning_1 : (fun (v2 : Int32) (v3 : Int32) (a1 : (Int32 × Mem)) => run C_X0_winning 3 (7, [some (.ref 12), some (.ref 2), some (.int v2), some (.int v3), some (.int a1.1), none, none], [], a1.2, 0)) = (fun (v2 : Int32) (v3 : Int32) (a1 : (Int32 × Mem)) => some (.inl ((br (decide (a1.1 ≤ v2)) 10 3 (42)), [some (.ref 12), some (.ref 2), some (.int v2), some (.int v3), some (.int a1.1), none, none], [], a1.2, 0))) := by rfl
set_option maxRecDepth 100000 in
theorem b_X0_winning_2 : (fun (v2 : Int32) (v3 : Int32) (a1 : (Int32 × Mem)) => run C_X0_winning 5 (13, [some (.ref 12), some (.ref 2), some (.int v2), some (.int v3), some (.int a1.1), none, none], [], a1.2, 0)) = (fun (v2 : Int32) (v3 : Int32) (a1 : (Int32 × Mem)) => some (.inl ((br (!decide ((a1.1 &&& v2) = v2)) 18 3 (28)), [some (.ref 12), some (.ref 2), some (.int v2), some (.int v3), some (.int a1.1), none, none], [], a1.2, 0))) := by rfl
set_option maxRecDepth 100000 in
theorem b_X0_winning_3 : (fun (v2 : Int32) (v3 : Int32) (a1 : (Int32 × Mem)) => run C_X0_winning 7 (21, [some (.ref 12), some (.ref 2), some (.int v2), some (.int v3), some (.int a1.1), none, none], [], a1.2, 0)) = (fun (v2 : Int32) (v3 : Int32) (a1 : (Int32 × Mem)) => some (.inl (32, [some (.ref 12), some (.ref 2), some (.int v2), some (.int v3), some (.int a1.1), none, none], [.int v3, .int a1.1, .ref 2, .ref 12, .int a1.1, .ref 13], a1.2, 0))) := by rfl
set_option maxRecDepth 100000 in
theorem b_X0_winning_4 : (fun (v2 : Int32) (v3 : Int32) (a1 : (Int32 × Mem)) (w1 : Int32) => run C_X0_winning 1 (35, [some (.ref 12), some (.ref 2), some (.int v2), some (.int v3), some (.int a1.1), none, none], [.int w1, .int a1.1, .ref 13], a1.2, 0)) = (fun (v2 : Int32) (v3 : Int32) (a1 : (Int32 × Mem)) (w1 : Int32) => some (.inl ((br (decide (w1 = 0)) 35 3 (7)), [some (.ref 12), some (.ref 2), some (.int v2), some (.int v3), some (.int a1.1), none, none], [.int a1.1, .ref 13], a1.2, 0))) := by rfl
set_option maxRecDepth 100000 in
theorem b_X0_winning_5 : (fun (v2 : Int32) (v3 : Int32) (a1 : (Int32 × Mem)) => run C_X0_winning 1 (42, [some (.ref 12), some (.ref 2), some (.int v2), some (.int v3), some (.int a1.1), none, none], [.int a1.1, .ref 13], a1.2, 0)) = (fun (v2 : Int32) (v3 : Int32) (a1 : (Int32 × Mem)) => some (.inl (43, [some (.ref 12), some (.ref 2), some (.int v2), some (.int v3), some (.int a1.1), none, none], [.int (0 : Int32), .int a1.1, .ref 13], a1.2, 0))) := by rfl
set_option maxRecDepth 100000 in
theorem b_X0_winning_6 : (fun (v2 : Int32) (v3 : Int32) (a1 : (Int32 × Mem)) => run C_X0_winning 2 (38, [some (.ref 12), some (.ref 2), some (.int v2), some (.int v3), some (.int a1.1), none, none], [.int a1.1, .ref 13], a1.2, 0)) = (fun (v2 : Int32) (v3 : Int32) (a1 : (Int32 × Mem)) => some (.inl (43, [some (.ref 12), some (.ref 2), some (.int v2), some (.int v3), some (.int a1.1), none, none], [.int (1 : Int32), .int a1.1, .ref 13], a1.2, 0))) := by rfl
theorem m_X0_winning_0 (v2 : Int32) (v3 : Int32) (a1 : (Int32 × Mem)) (w1 : Int32) : Rto C_X0_winning (35, [some (.ref 12), some (.ref 2), some (.int v2), some (.int v3), some (.int a1.1), none, none], [.int w1, .int a1.1, .ref 13], a1.2, 0) (43, [some (.ref 12), some (.ref 2), some (.int v2), some (.int v3), some (.int a1.1), none, none], [.int (if w1 = 0 then (0 : Int32) else (1 : Int32)), .int a1.1, .ref 13], a1.2, 0) := by
  refine Rto.trans (Rto.run 1 (congrFun (congrFun (congrFun (congrFun b_X0_winning_4 v2) v3) a1) w1)) ?_
  by_cases h : w1 = 0
  · refine Rto.trans (Rto.brT (q := 42) h rfl) ?_
    refine Rto.trans (Rto.run 1 (congrFun (congrFun (congrFun b_X0_winning_5 v2) v3) a1)) ?_
    exact Rto.eq (by first | (simp only [if_pos h]; done) | rfl | exact absurd rfl h | (simp; done))
  · refine Rto.trans (Rto.brF (q := 38) h rfl) ?_
    refine Rto.trans (Rto.run 2 (congrFun (congrFun (congrFun b_X0_winning_6 v2) v3) a1)) ?_
    exact Rto.eq (by first | (simp only [if_neg h]; done) | rfl | exact absurd rfl h | (simp; done))
set_option maxRecDepth 100000 in
theorem b_X0_winning_7 : (fun (v2 : Int32) (v3 : Int32) (a1 : (Int32 × Mem)) (w1 : Int32) => run C_X0_winning 3 (43, [some (.ref 12), some (.ref 2), some (.int v2), some (.int v3), some (.int a1.1), none, none], [.int (if w1 = 0 then (0 : Int32) else (1 : Int32)), .int a1.1, .ref 13], a1.2, 0)) = (fun (v2 : Int32) (v3 : Int32) (a1 : (Int32 × Mem)) (w1 : Int32) => some (.inl (7, [some (.ref 12), some (.ref 2), some (.int v2), some (.int v3), some (.int (a1.1 + (-1 : Int32))), none, none], [], ((d_X7_lay 13 1024 a1.1 (if w1 = 0 then (0 : Int32) else (1 : Int32))) a1.2), 0))) := by rfl
set_option maxRecDepth 100000 in
theorem b_X0_winning_8 : (fun (v2 : Int32) (v3 : Int32) (a1 : (Int32 × Mem)) => run C_X0_winning 2 (46, [some (.ref 12), some (.ref 2), some (.int v2), some (.int v3), some (.int a1.1), none, none], [], a1.2, 0)) = (fun (v2 : Int32) (v3 : Int32) (a1 : (Int32 × Mem)) => some (.inl (7, [some (.ref 12), some (.ref 2), some (.int v2), some (.int v3), some (.int (a1.1 + (-1 : Int32))), none, none], [], a1.2, 0))) := by rfl
def g_X0_winning_1 (v2 : Int32) (v3 : Int32) : Int32 × Mem → Option ((Int32 × Mem) ⊕ ((Int32 × Mem) ⊕ (Res × Mem))) := fun (a1 : Int32 × Mem) => (if a1.1 ≤ v2 then some (.inr (.inl (a1.1, a1.2))) else (if (a1.1 &&& v2) = v2 then ((d_X0_isLost a1.1 v3 a1.2).bind fun w1 => some (.inl ((a1.1 + (-1 : Int32)), ((d_X7_lay 13 1024 a1.1 (if w1 = 0 then (0 : Int32) else (1 : Int32))) a1.2)))) else some (.inl ((a1.1 + (-1 : Int32)), a1.2))))
set_option maxHeartbeats 2000000 in
theorem l_X0_winning_1 (v2 : Int32) (v3 : Int32) (M : Mem) : ∀ a1 : Int32 × Mem, RG C_X0_winning ((fun (a1 : Int32 × Mem) => (7, [some (.ref 12), some (.ref 2), some (.int v2), some (.int v3), some (.int a1.1), none, none], [], a1.2, 0)) a1) (g_X0_winning_1 v2 v3 a1) (lpP (fun (a1 : Int32 × Mem) => (7, [some (.ref 12), some (.ref 2), some (.int v2), some (.int v3), some (.int a1.1), none, none], [], a1.2, 0)) (fun (a1 : Int32 × Mem) => (52, [some (.ref 12), some (.ref 2), some (.int v2), some (.int v3), some (.int a1.1), none, none], [], a1.2, 0)) id) := by
  intro a1
  unfold g_X0_winning_1
  show RG C_X0_winning (7, [some (.ref 12), some (.ref 2), some (.int v2), some (.int v3), some (.int a1.1), none, none], [], a1.2, 0) _ _
  refine RG.st 3 (congrFun (congrFun (congrFun b_X0_winning_1 v2) v3) a1) ?_
  refine RG.ite (fun h1 => RG.brT (q := 52) h1 rfl ?_) (fun h1 => RG.brF (q := 13) h1 rfl ?_)
  · exact RG.to rfl (Rto.refl _)
  · refine RG.st 5 (congrFun (congrFun (congrFun b_X0_winning_2 v2) v3) a1) ?_
    refine RG.ite (fun h2 => RG.brNF (q := 21) h2 rfl ?_) (fun h2 => RG.brNT (q := 46) h2 rfl ?_)
    · refine RG.st 7 (congrFun (congrFun (congrFun b_X0_winning_3 v2) v3) a1) ?_
      refine RG.bind (fun w1 h3 => RG.st 1 (run_callV (v := some (.int w1)) rfl rfl rfl rfl rfl (bindI h3)) ?_)
      show RG C_X0_winning (35, [some (.ref 12), some (.ref 2), some (.int v2), some (.int v3), some (.int a1.1), none, none], [.int w1, .int a1.1, .ref 13], a1.2, 0) _ _
      refine RG.step (m_X0_winning_0 v2 v3 a1 w1) ?_
      refine RG.st 3 (congrFun (congrFun (congrFun (congrFun b_X0_winning_7 v2) v3) a1) w1) ?_
      exact RG.to rfl (Rto.refl _)
    · refine RG.st 2 (congrFun (congrFun (congrFun b_X0_winning_8 v2) v3) a1) ?_
      exact RG.to rfl (Rto.refl _)
set_option maxRecDepth 100000 in
theorem b_X0_winning_9 : (fun (v2 : Int32) (v3 : Int32) (a2 : (Int32 × Mem)) => run C_X0_winning 4 (52, [some (.ref 12), some (.ref 2), some (.int v2), some (.int v3), some (.int a2.1), none, none], [], a2.2, 0)) = (fun (v2 : Int32) (v3 : Int32) (a2 : (Int32 × Mem)) => some (.inl (58, [some (.ref 12), some (.ref 2), some (.int v2), some (.int v3), some (.long (0 : Int64)), none, some (.int (0 : Int32))], [], a2.2, 0))) := by rfl
set_option maxRecDepth 100000 in
theorem b_X0_winning_10 : (fun (v2 : Int32) (v3 : Int32) (a2 : (Int32 × Mem)) (a3 : (Int64 × Int32)) => run C_X0_winning 4 (58, [some (.ref 12), some (.ref 2), some (.int v2), some (.int v3), some (.long a3.1), none, some (.int a3.2)], [], a2.2, 0)) = (fun (v2 : Int32) (v3 : Int32) (a2 : (Int32 × Mem)) (a3 : (Int64 × Int32)) => some (.inl ((br (!decide (a3.2 < (a2.2.1 2 2))) 64 3 (29)), [some (.ref 12), some (.ref 2), some (.int v2), some (.int v3), some (.long a3.1), none, some (.int a3.2)], [], a2.2, 0))) := by rfl
set_option maxRecDepth 100000 in
theorem b_X0_winning_11 : (fun (v2 : Int32) (v3 : Int32) (a2 : (Int32 × Mem)) (a3 : (Int64 × Int32)) => run C_X0_winning 5 (67, [some (.ref 12), some (.ref 2), some (.int v2), some (.int v3), some (.long a3.1), none, some (.int a3.2)], [], a2.2, 0)) = (fun (v2 : Int32) (v3 : Int32) (a2 : (Int32 × Mem)) (a3 : (Int64 × Int32)) => some (.inl ((br (decide ((d_X0_leadsToLost v2 a3.2 a2.2) = 0)) 74 3 (13)), [some (.ref 12), some (.ref 2), some (.int v2), some (.int v3), some (.long a3.1), none, some (.int a3.2)], [], a2.2, 0))) := by rfl
set_option maxRecDepth 100000 in
theorem b_X0_winning_12 : (fun (v2 : Int32) (v3 : Int32) (a2 : (Int32 × Mem)) (a3 : (Int64 × Int32)) => run C_X0_winning 5 (77, [some (.ref 12), some (.ref 2), some (.int v2), some (.int v3), some (.long a3.1), none, some (.int a3.2)], [], a2.2, 0)) = (fun (v2 : Int32) (v3 : Int32) (a2 : (Int32 × Mem)) (a3 : (Int64 × Int32)) => some (.inl (87, [some (.ref 12), some (.ref 2), some (.int v2), some (.int v3), some (.long (a3.1 ||| (d_X7_bit a3.2))), none, some (.int a3.2)], [], a2.2, 0))) := by rfl
theorem m_X0_winning_1 (v2 : Int32) (v3 : Int32) (a2 : (Int32 × Mem)) (a3 : (Int64 × Int32)) : Rto C_X0_winning (67, [some (.ref 12), some (.ref 2), some (.int v2), some (.int v3), some (.long a3.1), none, some (.int a3.2)], [], a2.2, 0) (87, [some (.ref 12), some (.ref 2), some (.int v2), some (.int v3), some (.long (if (d_X0_leadsToLost v2 a3.2 a2.2) = 0 then a3.1 else (a3.1 ||| (d_X7_bit a3.2)))), none, some (.int a3.2)], [], a2.2, 0) := by
  refine Rto.trans (Rto.run 5 (congrFun (congrFun (congrFun (congrFun b_X0_winning_11 v2) v3) a2) a3)) ?_
  by_cases h : (d_X0_leadsToLost v2 a3.2 a2.2) = 0
  · refine Rto.trans (Rto.brT (q := 87) h rfl) ?_
    exact Rto.eq (by first | (simp only [if_pos h]; done) | rfl | exact absurd rfl h | (simp; done))
  · refine Rto.trans (Rto.brF (q := 77) h rfl) ?_
    refine Rto.trans (Rto.run 5 (congrFun (congrFun (congrFun (congrFun b_X0_winning_12 v2) v3) a2) a3)) ?_
    exact Rto.eq (by first | (simp only [if_neg h]; done) | rfl | exact absurd rfl h | (simp; done))
set_option maxRecDepth 100000 in
theorem b_X0_winning_13 : (fun (v2 : Int32) (v3 : Int32) (a2 : (Int32 × Mem)) (a3 : (Int64 × Int32)) => run C_X0_winning 2 (87, [some (.ref 12), some (.ref 2), some (.int v2), some (.int v3), some (.long (if (d_X0_leadsToLost v2 a3.2 a2.2) = 0 then a3.1 else (a3.1 ||| (d_X7_bit a3.2)))), none, some (.int a3.2)], [], a2.2, 0)) = (fun (v2 : Int32) (v3 : Int32) (a2 : (Int32 × Mem)) (a3 : (Int64 × Int32)) => some (.inl (58, [some (.ref 12), some (.ref 2), some (.int v2), some (.int v3), some (.long (if (d_X0_leadsToLost v2 a3.2 a2.2) = 0 then a3.1 else (a3.1 ||| (d_X7_bit a3.2)))), none, some (.int (a3.2 + (1 : Int32)))], [], a2.2, 0))) := by rfl
def g_X0_winning_3 (v2 : Int32) (a2 : (Int32 × Mem)) : Int64 × Int32 → Option ((Int64 × Int32) ⊕ ((Int64 × Int32) ⊕ (Res × Mem))) := fun (a3 : Int64 × Int32) => (if a3.2 < (a2.2.1 2 2) then some (.inl ((if (d_X0_leadsToLost v2 a3.2 a2.2) = 0 then a3.1 else (a3.1 ||| (d_X7_bit a3.2))), (a3.2 + (1 : Int32)))) else some (.inr (.inl (a3.1, a3.2))))
set_option maxHeartbeats 2000000 in
theorem l_X0_winning_3 (v2 : Int32) (v3 : Int32) (M : Mem) (a2 : (Int32 × Mem)) : ∀ a3 : Int64 × Int32, RG C_X0_winning ((fun (a3 : Int64 × Int32) => (58, [some (.ref 12), some (.ref 2), some (.int v2), some (.int v3), some (.long a3.1), none, some (.int a3.2)], [], a2.2, 0)) a3) (g_X0_winning_3 v2 a2 a3) (lpP (fun (a3 : Int64 × Int32) => (58, [some (.ref 12), some (.ref 2), some (.int v2), some (.int v3), some (.long a3.1), none, some (.int a3.2)], [], a2.2, 0)) (fun (a3 : Int64 × Int32) => (93, [some (.ref 12), some (.ref 2), some (.int v2), some (.int v3), some (.long a3.1), none, some (.int a3.2)], [], a2.2, 0)) id) := by
  intro a3
  unfold g_X0_winning_3
  show RG C_X0_winning (58, [some (.ref 12), some (.ref 2), some (.int v2), some (.int v3), some (.long a3.1), none, some (.int a3.2)], [], a2.2, 0) _ _
  refine RG.st 4 (congrFun (congrFun (congrFun (congrFun b_X0_winning_10 v2) v3) a2) a3) ?_
  refine RG.ite (fun h4 => RG.brNF (q := 67) h4 rfl ?_) (fun h4 => RG.brNT (q := 93) h4 rfl ?_)
  · refine RG.step (m_X0_winning_1 v2 v3 a2 a3) ?_
    refine RG.st 2 (congrFun (congrFun (congrFun (congrFun b_X0_winning_13 v2) v3) a2) a3) ?_
    exact RG.to rfl (Rto.refl _)
  · exact RG.to rfl (Rto.refl _)
set_option maxRecDepth 100000 in
theorem b_X0_winning_14 : (fun (v2 : Int32) (v3 : Int32) (a2 : (Int32 × Mem)) (a4 : (Int64 × Int32)) => run C_X0_winning 2 (93, [some (.ref 12), some (.ref 2), some (.int v2), some (.int v3), some (.long a4.1), none, some (.int a4.2)], [], a2.2, 0)) = (fun (v2 : Int32) (v3 : Int32) (a2 : (Int32 × Mem)) (a4 : (Int64 × Int32)) => some (.inr (.inl (some (.long a4.1)), a2.2, 0))) := by rfl
def d_X0_winning (v2 : Int32) (v3 : Int32) (M : Mem) : Option (Res × Mem) := (onIt (iter (g_X0_winning_1 v2 v3) 20000 ((M.2 2 3).toInt32, M)) (fun (a2 : Int32 × Mem) => (onIt (iter (g_X0_winning_3 v2 a2) 20000 ((0 : Int64), (0 : Int32))) (fun (a4 : Int64 × Int32) => some (.inl (some (.long a4.1)), a2.2)) (fun r => some r))) (fun r => some r))
set_option maxHeartbeats 2000000 in
theorem r_X0_winning (v2 : Int32) (v3 : Int32) (M : Mem) : RG C_X0_winning (0, [some (.ref 12), some (.ref 2), some (.int v2), some (.int v3), none, none, none], [], M, 0) (d_X0_winning v2 v3 M) (fun r => .inr r) := by
  unfold d_X0_winning
  refine RG.st 4 (congrFun (congrFun (congrFun b_X0_winning_0 v2) v3) M) ?_
  refine RG.loop (hd := (fun (a1 : Int32 × Mem) => (7, [some (.ref 12), some (.ref 2), some (.int v2), some (.int v3), some (.int a1.1), none, none], [], a1.2, 0))) (ex := (fun (a1 : Int32 × Mem) => (52, [some (.ref 12), some (.ref 2), some (.int v2), some (.int v3), some (.int a1.1), none, none], [], a1.2, 0))) (rt := id) (l_X0_winning_1 v2 v3 M) (fun a2 => ?_) (fun r v h => by cases h; rfl)
  show RG C_X0_winning (52, [some (.ref 12), some (.ref 2), some (.int v2), some (.int v3), some (.int a2.1), none, none], [], a2.2, 0) _ _
  refine RG.st 4 (congrFun (congrFun (congrFun b_X0_winning_9 v2) v3) a2) ?_
  refine RG.loop (hd := (fun (a3 : Int64 × Int32) => (58, [some (.ref 12), some (.ref 2), some (.int v2), some (.int v3), some (.long a3.1), none, some (.int a3.2)], [], a2.2, 0))) (ex := (fun (a3 : Int64 × Int32) => (93, [some (.ref 12), some (.ref 2), some (.int v2), some (.int v3), some (.long a3.1), none, some (.int a3.2)], [], a2.2, 0))) (rt := id) (l_X0_winning_3 v2 v3 M a2) (fun a4 => ?_) (fun r v h => by cases h; rfl)
  show RG C_X0_winning (93, [some (.ref 12), some (.ref 2), some (.int v2), some (.int v3), some (.long a4.1), none, some (.int a4.2)], [], a2.2, 0) _ _
  exact RG.fin rfl (Rend.run 2 (congrFun (congrFun (congrFun (congrFun b_X0_winning_14 v2) v3) a2) a4))
def fn_X0_winning : Fn := fun av M => match av with
  | [.ref r0, .ref r1, .int v2, .int v3] => bif Nat.beq r0 12 && Nat.beq r1 2 then (d_X0_winning v2 v3 M) else (none)
  | _ => none
theorem cfg_X0_winning : CfgOK RX0 cX0_winning (C_X0_winning) 8 := ⟨tk_X0_winning, csF_nd, flk_X0, (List.forall_mem_cons.mpr ⟨Or.inr ⟨yX0_isLost, cX0_isLost, 5, (some .boolean), none, 7, ok_X0_isLost, by decide, by decide, w_code_Sumsetry_Game_isLost__LSumsetry_Group_II_Z, w_initialized_Sumsetry_Game, ⟨by decide, by decide⟩, Or.inr (Or.inr ⟨rfl, rfl, show (parseMethodDescriptor yX0_isLost.desc).map (fun d => d.parameters.length + 1) = some 4 from by decide +kernel, w_methodLink_Sumsetry_Game_21, w_instanceMethod_Sumsetry_Game_isLost__LSumsetry_Group_II_Z, w_selects_Sumsetry_Game_isLost__LSumsetry_Group_II_Z, ⟨_, rfl, rfl⟩⟩)⟩,
    List.forall_mem_cons.mpr ⟨Or.inr ⟨yX7_lay, cX7_lay, 3, none, none, 1, ok_X7_lay, by decide, by decide, w_code_Sumsetry_lay___III_V, w_initialized_Sumsetry, ⟨by decide, by decide⟩, Or.inr (Or.inl ⟨rfl, rfl, show (parseMethodDescriptor yX7_lay.desc).map (fun d => d.parameters.length) = some 3 from by decide +kernel, ⟨"Sumsetry", by decide +kernel⟩, w_static_Sumsetry_lay___III_V⟩)⟩,
    List.forall_mem_cons.mpr ⟨Or.inr ⟨yX0_leadsToLost, cX0_leadsToLost, 3, (some .boolean), none, 2, ok_X0_leadsToLost, by decide, by decide, w_code_Sumsetry_Game_leadsToLost__II_Z, w_initialized_Sumsetry_Game, ⟨by decide, by decide⟩, Or.inr (Or.inr ⟨rfl, rfl, show (parseMethodDescriptor yX0_leadsToLost.desc).map (fun d => d.parameters.length + 1) = some 3 from by decide +kernel, w_methodLink_Sumsetry_Game_33, w_instanceMethod_Sumsetry_Game_leadsToLost__II_Z, w_selects_Sumsetry_Game_leadsToLost__II_Z, ⟨_, rfl, rfl⟩⟩)⟩,
    List.forall_mem_cons.mpr ⟨Or.inr ⟨yX7_bit, cX7_bit, 1, (some .long), none, 1, ok_X7_bit, by decide, by decide, w_code_Sumsetry_bit__I_J, w_initialized_Sumsetry, ⟨by decide, by decide⟩, Or.inr (Or.inl ⟨rfl, rfl, show (parseMethodDescriptor yX7_bit.desc).map (fun d => d.parameters.length) = some 1 from by decide +kernel, ⟨"Sumsetry", by decide +kernel⟩, w_static_Sumsetry_bit__I_J⟩)⟩, fun _ h => absurd h List.not_mem_nil⟩⟩⟩⟩), ink_X0, lgk_X0, fun e h => absurd h List.not_mem_nil, (fun h hh => absurd hh List.not_mem_nil)⟩
theorem ok_X0_winning : OkM csF yX0_winning (Cond.code yX0_winning cX0_winning 7 (some .long)) 8 0 fn_X0_winning :=
  OkM_of (own := RX0) (C := C_X0_winning) (by decide +kernel) rfl (cfg_X0_winning) rfl rfl rfl rfl (by
    intro av M o M' h
    unfold fn_X0_winning at h
    split at h
    · rename_i r0 r1 v2 v3
      rcases bif_cs h with ⟨hb, h⟩ | ⟨-, h⟩
      · simp only [Bool.and_eq_true] at hb
        obtain ⟨hr0, hr1⟩ := hb
        obtain rfl := Nat.eq_of_beq_eq_true hr0
        obtain rfl := Nat.eq_of_beq_eq_true hr1
        exact ⟨rfl, Nat.le_of_ble_eq_true rfl, (r_X0_winning v2 v3 M) (o, M') h⟩
      · cases h
    · cases h)
def t_X7_share : List (Nat × Instr × Nat) := [(0, .iload_n 1, 1), (1, .iconst 1, 1), (2, .if_icmp .ge 7, 3), (5, .iconst 0, 1), (6, .goto 6, 3), (9, .iload_n 0, 1), (10, .iload_n 1, 1), (11, .idiv, 1), (12, .ireturn, 1)]
theorem tk_X7_share : ∀ x ∈ t_X7_share, decode cX7_share x.1 = .ok x.2 := by decide +kernel
def C_X7_share : Cfg := (t_X7_share, csF, fl_X7, [], in_X7, lg_X7, [], [], none, (some .int), 0)
set_option maxRecDepth 100000 in
theorem b_X7_share_0 : (fun (v0 : Int32) (v1 : Int32) (M : Mem) => run C_X7_share 3 (0, [some (.int v0), some (.int v1)], [], M, 0)) = (fun (v0 : Int32) (v1 : Int32) (M : Mem) => some (.inl ((br (!decide (v1 < (1 : Int32))) 2 3 (7)), [some (.int v0), some (.int v1)], [], M, 0))) := by rfl
set_option maxRecDepth 100000 in
theorem b_X7_share_1 : (fun (v0 : Int32) (v1 : Int32) (M : Mem) => run C_X7_share 3 (5, [some (.int v0), some (.int v1)], [], M, 0)) = (fun (v0 : Int32) (v1 : Int32) (M : Mem) => some (.inr (.inl (some (.int (0 : Int32))), M, 0))) := by rfl
set_option maxRecDepth 100000 in
theorem b_X7_share_2 : (fun (v0 : Int32) (v1 : Int32) (M : Mem) => run C_X7_share 2 (9, [some (.int v0), some (.int v1)], [], M, 0)) = (fun (v0 : Int32) (v1 : Int32) (M : Mem) => some (.inl (11, [some (.int v0), some (.int v1)], [.int v1, .int v0], M, 0))) := by rfl
set_option maxRecDepth 100000 in
theorem b_X7_share_3 : (fun (v0 : Int32) (v1 : Int32) (M : Mem) => stp C_X7_share (11, [some (.int v0), some (.int v1)], [.int v1, .int v0], M, 0)) = (fun (v0 : Int32) (v1 : Int32) (M : Mem) => (if v1 = 0 then none else some (.inl (12, [some (.int v0), some (.int v1)], [.int (v0 / v1)], M, 0)))) := by rfl
set_option maxRecDepth 100000 in
theorem b_X7_share_4 : (fun (v0 : Int32) (v1 : Int32) (M : Mem) => run C_X7_share 1 (12, [some (.int v0), some (.int v1)], [.int (v0 / v1)], M, 0)) = (fun (v0 : Int32) (v1 : Int32) (M : Mem) => some (.inr (.inl (some (.int (v0 / v1))), M, 0))) := by rfl
def d_X7_share (v0 : Int32) (v1 : Int32) : Int32 := (if v1 < (1 : Int32) then (0 : Int32) else (v0 / v1))
set_option maxHeartbeats 2000000 in
theorem r_X7_share (v0 : Int32) (v1 : Int32) (M : Mem) : RG C_X7_share (0, [some (.int v0), some (.int v1)], [], M, 0) (some (d_X7_share v0 v1)) (fun v => .inr (.inl (some (.int v)), M)) := by
  unfold d_X7_share
  refine RG.st 3 (congrFun (congrFun (congrFun b_X7_share_0 v0) v1) M) ?_
  refine RG.ites (fun h1 => RG.brNF (q := 5) h1 rfl ?_) (fun h1 => RG.brNT (q := 9) h1 rfl ?_)
  · exact RG.fin rfl (Rend.run 3 (congrFun (congrFun (congrFun b_X7_share_1 v0) v1) M))
  · refine RG.st 2 (congrFun (congrFun (congrFun b_X7_share_2 v0) v1) M) ?_
    have h2 : ¬ (v1 = 0) := (by intro h0; rw [h0] at h1; exact h1 (by decide))
    refine RG.st 1 (stp_gN h2 (congrFun (congrFun (congrFun b_X7_share_3 v0) v1) M)) ?_
    exact RG.fin rfl (Rend.run 1 (congrFun (congrFun (congrFun b_X7_share_4 v0) v1) M))
def fn_X7_share : Fn := fun av M => match av with
  | [.int v0, .int v1] => some (.inl (some (.int (d_X7_share v0 v1))), M)
  | _ => none
theorem cfg_X7_share : CfgOK RX7 cX7_share (C_X7_share) 1 := ⟨tk_X7_share, csF_nd, flk_X7, (fun e h => absurd h List.not_mem_nil), ink_X7, lgk_X7, fun e h => absurd h List.not_mem_nil, (fun h hh => absurd hh List.not_mem_nil)⟩
theorem ok_X7_share : OkM csF yX7_share (Cond.code yX7_share cX7_share 2 (some .int)) 1 0 fn_X7_share :=
  OkM_of (own := RX7) (C := C_X7_share) (by decide +kernel) rfl (cfg_X7_share) rfl rfl rfl rfl (by
    intro av M o M' h
    unfold fn_X7_share at h
    split at h
    · rename_i v0 v1
      cases h
      exact ⟨rfl, Nat.le_of_ble_eq_true rfl, (r_X7_share v0 v1 M) _ rfl⟩
    · cases h)
def t_X1_multiple : List (Nat × Instr × Nat) := [(0, .aload_n 0, 1), (1, .getfield 23, 3), (4, .iload_n 1, 1), (5, .iload_n 2, 1), (6, .aload_n 0, 1), (7, .getfield 23, 3), (10, .invokestatic 53, 3), (13, .imul, 1), (14, .aload_n 0, 1), (15, .getfield 19, 3), (18, .invokestatic 56, 3), (21, .imul, 1), (22, .iload_n 1, 1), (23, .iload_n 2, 1), (24, .aload_n 0, 1), (25, .getfield 23, 3), (28, .invokestatic 56, 3), (31, .imul, 1), (32, .aload_n 0, 1), (33, .getfield 23, 3), (36, .invokestatic 56, 3), (39, .iadd, 1), (40, .ireturn, 1)]
theorem tk_X1_multiple : ∀ x ∈ t_X1_multiple, decode cX1_multiple x.1 = .ok x.2 := by decide +kernel
def C_X1_multiple : Cfg := (t_X1_multiple, csF, fl_X1, [(53, 1, 5, 2, 0, fn_X7_share), (56, 1, 5, 2, 0, fn_X7_rest)], in_X1, lg_X1, [], [], none, (some .int), 0)
set_option maxRecDepth 100000 in
theorem b_X1_multiple_0 : (fun (v1 : Int32) (v2 : Int32) (M : Mem) => run C_X1_multiple 23 (0, [some (.ref 2), some (.int v1), some (.int v2)], [], M, 0)) = (fun (v1 : Int32) (v2 : Int32) (M : Mem) => some (.inr (.inl (some (.int (((M.1 2 1) * (d_X7_rest (v1 * (d_X7_share v2 (M.1 2 1))) (M.1 2 0))) + (d_X7_rest (v1 * (d_X7_rest v2 (M.1 2 1))) (M.1 2 1))))), M, 0))) := by rfl
def d_X1_multiple (v1 : Int32) (v2 : Int32) (M : Mem) : Int32 := (((M.1 2 1) * (d_X7_rest (v1 * (d_X7_share v2 (M.1 2 1))) (M.1 2 0))) + (d_X7_rest (v1 * (d_X7_rest v2 (M.1 2 1))) (M.1 2 1)))
set_option maxHeartbeats 2000000 in
theorem r_X1_multiple (v1 : Int32) (v2 : Int32) (M : Mem) : RG C_X1_multiple (0, [some (.ref 2), some (.int v1), some (.int v2)], [], M, 0) (some (d_X1_multiple v1 v2 M)) (fun v => .inr (.inl (some (.int v)), M)) := by
  unfold d_X1_multiple
  exact RG.fin rfl (Rend.run 23 (congrFun (congrFun (congrFun b_X1_multiple_0 v1) v2) M))
def fn_X1_multiple : Fn := fun av M => match av with
  | [.ref r0, .int v1, .int v2] => bif Nat.beq r0 2 then some (.inl (some (.int (d_X1_multiple v1 v2 M))), M) else (none)
  | _ => none
theorem cfg_X1_multiple : CfgOK RX1 cX1_multiple (C_X1_multiple) 2 := ⟨tk_X1_multiple, csF_nd, flk_X1, (List.forall_mem_cons.mpr ⟨Or.inr ⟨yX7_share, cX7_share, 2, (some .int), none, 1, ok_X7_share, by decide, by decide, w_code_Sumsetry_share__II_I, w_initialized_Sumsetry, ⟨by decide, by decide⟩, Or.inr (Or.inl ⟨rfl, rfl, show (parseMethodDescriptor yX7_share.desc).map (fun d => d.parameters.length) = some 2 from by decide +kernel, ⟨"Sumsetry", by decide +kernel⟩, w_static_Sumsetry_share__II_I⟩)⟩,
    List.forall_mem_cons.mpr ⟨Or.inr ⟨yX7_rest, cX7_rest, 3, (some .int), none, 1, ok_X7_rest, by decide, by decide, w_code_Sumsetry_rest__II_I, w_initialized_Sumsetry, ⟨by decide, by decide⟩, Or.inr (Or.inl ⟨rfl, rfl, show (parseMethodDescriptor yX7_rest.desc).map (fun d => d.parameters.length) = some 2 from by decide +kernel, ⟨"Sumsetry", by decide +kernel⟩, w_static_Sumsetry_rest__II_I⟩)⟩, fun _ h => absurd h List.not_mem_nil⟩⟩), ink_X1, lgk_X1, fun e h => absurd h List.not_mem_nil, (fun h hh => absurd hh List.not_mem_nil)⟩
theorem ok_X1_multiple : OkM csF yX1_multiple (Cond.code yX1_multiple cX1_multiple 3 (some .int)) 2 0 fn_X1_multiple :=
  OkM_of (own := RX1) (C := C_X1_multiple) (by decide +kernel) rfl (cfg_X1_multiple) rfl rfl rfl rfl (by
    intro av M o M' h
    unfold fn_X1_multiple at h
    split at h
    · rename_i r0 v1 v2
      rcases bif_cs h with ⟨hb, h⟩ | ⟨-, h⟩
      · skip
        have hr0 := hb
        obtain rfl := Nat.eq_of_beq_eq_true hr0
        cases h
        exact ⟨rfl, Nat.le_of_ble_eq_true rfl, (r_X1_multiple v1 v2 M) _ rfl⟩
      · cases h
    · cases h)
def t_X1_begin : List (Nat × Instr × Nat) := [(0, .aload_n 0, 1), (1, .iload_n 1, 1), (2, .putfield 19, 3), (5, .aload_n 0, 1), (6, .iload_n 2, 1), (7, .putfield 23, 3), (10, .aload_n 0, 1), (11, .aload_n 0, 1), (12, .getfield 19, 3), (15, .aload_n 0, 1), (16, .getfield 23, 3), (19, .imul, 1), (20, .putfield 26, 3), (23, .aload_n 0, 1), (24, .aload_n 0, 1), (25, .getfield 26, 3), (28, .invokestatic 29, 3), (31, .lconst 1, 1), (32, .lsub, 1), (33, .putfield 33, 3), (36, .aload_n 0, 1), (37, .lconst 0, 1), (38, .putfield 37, 3), (41, .iconst 0, 1), (42, .istore_n 3, 1), (43, .iload_n 3, 1), (44, .aload_n 0, 1), (45, .getfield 19, 3), (48, .if_icmp .ge 27, 3), (51, .aload_n 0, 1), (52, .dup, 1), (53, .getfield 37, 3), (56, .aload_n 0, 1), (57, .getfield 23, 3), (60, .iload_n 3, 1), (61, .imul, 1), (62, .invokestatic 29, 3), (65, .lor, 1), (66, .putfield 37, 3), (69, .iinc 3 1, 3), (72, .goto (-29), 3), (75, .aload_n 0, 1), (76, .lconst 0, 1), (77, .putfield 40, 3), (80, .iconst 0, 1), (81, .istore_n 3, 1), (82, .iload_n 3, 1), (83, .aload_n 0, 1), (84, .getfield 26, 3), (87, .if_icmp .ge 45, 3), (90, .aload_n 0, 1), (91, .getfield 9, 3), (94, .iload_n 3, 1), (95, .aload_n 0, 1), (96, .iconst (-1), 1), (97, .iload_n 3, 1), (98, .invokevirtual 43, 3), (101, .invokestatic 47, 3), (104, .aload_n 0, 1), (105, .iconst 2, 1), (106, .iload_n 3, 1), (107, .invokevirtual 43, 3), (110, .ifCond .ne 16, 3), (113, .aload_n 0, 1), (114, .dup, 1), (115, .getfield 40, 3), (118, .iload_n 3, 1), (119, .invokestatic 29, 3), (122, .lor, 1), (123, .putfield 40, 3), (126, .iinc 3 1, 3), (129, .goto (-47), 3), (132, .return_, 1)]
theorem tk_X1_begin : ∀ x ∈ t_X1_begin, decode cX1_begin x.1 = .ok x.2 := by decide +kernel
def C_X1_begin : Cfg := (t_X1_begin, csF, fl_X1, [(29, 1, 5, 1, 0, fn_X7_bit), (43, 2, 1, 3, 0, fn_X1_multiple), (47, 1, 5, 3, 0, fn_X7_lay)], in_X1, lg_X1, [], [], none, none, 0)
set_option maxRecDepth 100000 in
theorem b_X1_begin_0 : (fun (v1 : Int32) (v2 : Int32) (M : Mem) => run C_X1_begin 25 (0, [some (.ref 2), some (.int v1), some (.int v2), none], [], M, 0)) = (fun (v1 : Int32) (v2 : Int32) (M : Mem) => some (.inl (43, [some (.ref 2), some (.int v1), some (.int v2), some (.int (0 : Int32))], [], (sL (sL (sI (sI (sI M 2 0 v1) 2 1 v2) 2 2 (v1 * v2)) 2 3 ((d_X7_bit (v1 * v2)) - (1 : Int64))) 2 4 (0 : Int64)), 0))) := by rfl
set_option maxRecDepth 100000 in
theorem b_X1_begin_1 : (fun (v1 : Int32) (v2 : Int32) (a1 : (Int32 × Mem)) => run C_X1_begin 4 (43, [some (.ref 2), some (.int v1), some (.int v2), some (.int a1.1)], [], a1.2, 0)) = (fun (v1 : Int32) (v2 : Int32) (a1 : (Int32 × Mem)) => some (.inl ((br (!decide (a1.1 < (a1.2.1 2 0))) 48 3 (27)), [some (.ref 2), some (.int v1), some (.int v2), some (.int a1.1)], [], a1.2, 0))) := by rfl
set_option maxRecDepth 100000 in
theorem b_X1_begin_2 : (fun (v1 : Int32) (v2 : Int32) (a1 : (Int32 × Mem)) => run C_X1_begin 12 (51, [some (.ref 2), some (.int v1), some (.int v2), some (.int a1.1)], [], a1.2, 0)) = (fun (v1 : Int32) (v2 : Int32) (a1 : (Int32 × Mem)) => some (.inl (43, [some (.ref 2), some (.int v1), some (.int v2), some (.int (a1.1 + (1 : Int32)))], [], (sL a1.2 2 4 ((a1.2.2 2 4) ||| (d_X7_bit ((a1.2.1 2 1) * a1.1)))), 0))) := by rfl
def g_X1_begin_1 : Int32 × Mem → Option ((Int32 × Mem) ⊕ ((Int32 × Mem) ⊕ (Res × Mem))) := fun (a1 : Int32 × Mem) => (if a1.1 < (a1.2.1 2 0) then some (.inl ((a1.1 + (1 : Int32)), (sL a1.2 2 4 ((a1.2.2 2 4) ||| (d_X7_bit ((a1.2.1 2 1) * a1.1)))))) else some (.inr (.inl (a1.1, a1.2))))
set_option maxHeartbeats 2000000 in
theorem l_X1_begin_1 (v1 : Int32) (v2 : Int32) (M : Mem) : ∀ a1 : Int32 × Mem, RG C_X1_begin ((fun (a1 : Int32 × Mem) => (43, [some (.ref 2), some (.int v1), some (.int v2), some (.int a1.1)], [], a1.2, 0)) a1) (g_X1_begin_1 a1) (lpP (fun (a1 : Int32 × Mem) => (43, [some (.ref 2), some (.int v1), some (.int v2), some (.int a1.1)], [], a1.2, 0)) (fun (a1 : Int32 × Mem) => (75, [some (.ref 2), some (.int v1), some (.int v2), some (.int a1.1)], [], a1.2, 0)) id) := by
  intro a1
  unfold g_X1_begin_1
  show RG C_X1_begin (43, [some (.ref 2), some (.int v1), some (.int v2), some (.int a1.1)], [], a1.2, 0) _ _
  refine RG.st 4 (congrFun (congrFun (congrFun b_X1_begin_1 v1) v2) a1) ?_
  refine RG.ite (fun h1 => RG.brNF (q := 51) h1 rfl ?_) (fun h1 => RG.brNT (q := 75) h1 rfl ?_)
  · refine RG.st 12 (congrFun (congrFun (congrFun b_X1_begin_2 v1) v2) a1) ?_
    exact RG.to rfl (Rto.refl _)
  · exact RG.to rfl (Rto.refl _)
set_option maxRecDepth 100000 in
theorem b_X1_begin_3 : (fun (v1 : Int32) (v2 : Int32) (a2 : (Int32 × Mem)) => run C_X1_begin 5 (75, [some (.ref 2), some (.int v1), some (.int v2), some (.int a2.1)], [], a2.2, 0)) = (fun (v1 : Int32) (v2 : Int32) (a2 : (Int32 × Mem)) => some (.inl (82, [some (.ref 2), some (.int v1), some (.int v2), some (.int (0 : Int32))], [], (sL a2.2 2 5 (0 : Int64)), 0))) := by rfl
set_option maxRecDepth 100000 in
theorem b_X1_begin_4 : (fun (v1 : Int32) (v2 : Int32) (a3 : (Int32 × Mem)) => run C_X1_begin 4 (82, [some (.ref 2), some (.int v1), some (.int v2), some (.int a3.1)], [], a3.2, 0)) = (fun (v1 : Int32) (v2 : Int32) (a3 : (Int32 × Mem)) => some (.inl ((br (!decide (a3.1 < (a3.2.1 2 2))) 87 3 (45)), [some (.ref 2), some (.int v1), some (.int v2), some (.int a3.1)], [], a3.2, 0))) := by rfl
set_option maxRecDepth 100000 in
theorem b_X1_begin_5 : (fun (v1 : Int32) (v2 : Int32) (a3 : (Int32 × Mem)) => run C_X1_begin 13 (90, [some (.ref 2), some (.int v1), some (.int v2), some (.int a3.1)], [], a3.2, 0)) = (fun (v1 : Int32) (v2 : Int32) (a3 : (Int32 × Mem)) => some (.inl ((br (!decide ((d_X1_multiple (2 : Int32) a3.1 ((d_X7_lay 3 36 a3.1 (d_X1_multiple (-1 : Int32) a3.1 a3.2)) a3.2)) = 0)) 110 3 (16)), [some (.ref 2), some (.int v1), some (.int v2), some (.int a3.1)], [], ((d_X7_lay 3 36 a3.1 (d_X1_multiple (-1 : Int32) a3.1 a3.2)) a3.2), 0))) := by rfl
set_option maxRecDepth 100000 in
theorem b_X1_begin_6 : (fun (v1 : Int32) (v2 : Int32) (a3 : (Int32 × Mem)) => run C_X1_begin 7 (113, [some (.ref 2), some (.int v1), some (.int v2), some (.int a3.1)], [], ((d_X7_lay 3 36 a3.1 (d_X1_multiple (-1 : Int32) a3.1 a3.2)) a3.2), 0)) = (fun (v1 : Int32) (v2 : Int32) (a3 : (Int32 × Mem)) => some (.inl (126, [some (.ref 2), some (.int v1), some (.int v2), some (.int a3.1)], [], (sL ((d_X7_lay 3 36 a3.1 (d_X1_multiple (-1 : Int32) a3.1 a3.2)) a3.2) 2 5 ((((d_X7_lay 3 36 a3.1 (d_X1_multiple (-1 : Int32) a3.1 a3.2)) a3.2).2 2 5) ||| (d_X7_bit a3.1))), 0))) := by rfl
theorem m_X1_begin_0 (v1 : Int32) (v2 : Int32) (a3 : (Int32 × Mem)) : Rto C_X1_begin (90, [some (.ref 2), some (.int v1), some (.int v2), some (.int a3.1)], [], a3.2, 0) (126, [some (.ref 2), some (.int v1), some (.int v2), some (.int a3.1)], [], (if (d_X1_multiple (2 : Int32) a3.1 ((d_X7_lay 3 36 a3.1 (d_X1_multiple (-1 : Int32) a3.1 a3.2)) a3.2)) = 0 then (sL ((d_X7_lay 3 36 a3.1 (d_X1_multiple (-1 : Int32) a3.1 a3.2)) a3.2) 2 5 ((((d_X7_lay 3 36 a3.1 (d_X1_multiple (-1 : Int32) a3.1 a3.2)) a3.2).2 2 5) ||| (d_X7_bit a3.1))) else ((d_X7_lay 3 36 a3.1 (d_X1_multiple (-1 : Int32) a3.1 a3.2)) a3.2)), 0) := by
  refine Rto.trans (Rto.run 13 (congrFun (congrFun (congrFun b_X1_begin_5 v1) v2) a3)) ?_
  by_cases h : (d_X1_multiple (2 : Int32) a3.1 ((d_X7_lay 3 36 a3.1 (d_X1_multiple (-1 : Int32) a3.1 a3.2)) a3.2)) = 0
  · refine Rto.trans (Rto.brNF (q := 113) h rfl) ?_
    refine Rto.trans (Rto.run 7 (congrFun (congrFun (congrFun b_X1_begin_6 v1) v2) a3)) ?_
    exact Rto.eq (by first | (simp only [if_pos h]; done) | rfl | exact absurd rfl h | (simp; done))
  · refine Rto.trans (Rto.brNT (q := 126) h rfl) ?_
    exact Rto.eq (by first | (simp only [if_neg h]; done) | rfl | exact absurd rfl h | (simp; done))
set_option maxRecDepth 100000 in
theorem b_X1_begin_7 : (fun (v1 : Int32) (v2 : Int32) (a3 : (Int32 × Mem)) => run C_X1_begin 2 (126, [some (.ref 2), some (.int v1), some (.int v2), some (.int a3.1)], [], (if (d_X1_multiple (2 : Int32) a3.1 ((d_X7_lay 3 36 a3.1 (d_X1_multiple (-1 : Int32) a3.1 a3.2)) a3.2)) = 0 then (sL ((d_X7_lay 3 36 a3.1 (d_X1_multiple (-1 : Int32) a3.1 a3.2)) a3.2) 2 5 ((((d_X7_lay 3 36 a3.1 (d_X1_multiple (-1 : Int32) a3.1 a3.2)) a3.2).2 2 5) ||| (d_X7_bit a3.1))) else ((d_X7_lay 3 36 a3.1 (d_X1_multiple (-1 : Int32) a3.1 a3.2)) a3.2)), 0)) = (fun (v1 : Int32) (v2 : Int32) (a3 : (Int32 × Mem)) => some (.inl (82, [some (.ref 2), some (.int v1), some (.int v2), some (.int (a3.1 + (1 : Int32)))], [], (if (d_X1_multiple (2 : Int32) a3.1 ((d_X7_lay 3 36 a3.1 (d_X1_multiple (-1 : Int32) a3.1 a3.2)) a3.2)) = 0 then (sL ((d_X7_lay 3 36 a3.1 (d_X1_multiple (-1 : Int32) a3.1 a3.2)) a3.2) 2 5 ((((d_X7_lay 3 36 a3.1 (d_X1_multiple (-1 : Int32) a3.1 a3.2)) a3.2).2 2 5) ||| (d_X7_bit a3.1))) else ((d_X7_lay 3 36 a3.1 (d_X1_multiple (-1 : Int32) a3.1 a3.2)) a3.2)), 0))) := by rfl
def g_X1_begin_3 : Int32 × Mem → Option ((Int32 × Mem) ⊕ ((Int32 × Mem) ⊕ (Res × Mem))) := fun (a3 : Int32 × Mem) => (if a3.1 < (a3.2.1 2 2) then some (.inl ((a3.1 + (1 : Int32)), (if (d_X1_multiple (2 : Int32) a3.1 ((d_X7_lay 3 36 a3.1 (d_X1_multiple (-1 : Int32) a3.1 a3.2)) a3.2)) = 0 then (sL ((d_X7_lay 3 36 a3.1 (d_X1_multiple (-1 : Int32) a3.1 a3.2)) a3.2) 2 5 ((((d_X7_lay 3 36 a3.1 (d_X1_multiple (-1 : Int32) a3.1 a3.2)) a3.2).2 2 5) ||| (d_X7_bit a3.1))) else ((d_X7_lay 3 36 a3.1 (d_X1_multiple (-1 : Int32) a3.1 a3.2)) a3.2)))) else some (.inr (.inl (a3.1, a3.2))))
set_option maxHeartbeats 2000000 in
theorem l_X1_begin_3 (v1 : Int32) (v2 : Int32) (M : Mem) (a2 : (Int32 × Mem)) : ∀ a3 : Int32 × Mem, RG C_X1_begin ((fun (a3 : Int32 × Mem) => (82, [some (.ref 2), some (.int v1), some (.int v2), some (.int a3.1)], [], a3.2, 0)) a3) (g_X1_begin_3 a3) (lpP (fun (a3 : Int32 × Mem) => (82, [some (.ref 2), some (.int v1), some (.int v2), some (.int a3.1)], [], a3.2, 0)) (fun (a3 : Int32 × Mem) => (132, [some (.ref 2), some (.int v1), some (.int v2), some (.int a3.1)], [], a3.2, 0)) id) := by
  intro a3
  unfold g_X1_begin_3
  show RG C_X1_begin (82, [some (.ref 2), some (.int v1), some (.int v2), some (.int a3.1)], [], a3.2, 0) _ _
  refine RG.st 4 (congrFun (congrFun (congrFun b_X1_begin_4 v1) v2) a3) ?_
  refine RG.ite (fun h2 => RG.brNF (q := 90) h2 rfl ?_) (fun h2 => RG.brNT (q := 132) h2 rfl ?_)
  · refine RG.step (m_X1_begin_0 v1 v2 a3) ?_
    refine RG.st 2 (congrFun (congrFun (congrFun b_X1_begin_7 v1) v2) a3) ?_
    exact RG.to rfl (Rto.refl _)
  · exact RG.to rfl (Rto.refl _)
set_option maxRecDepth 100000 in
theorem b_X1_begin_8 : (fun (v1 : Int32) (v2 : Int32) (a4 : (Int32 × Mem)) => run C_X1_begin 1 (132, [some (.ref 2), some (.int v1), some (.int v2), some (.int a4.1)], [], a4.2, 0)) = (fun (v1 : Int32) (v2 : Int32) (a4 : (Int32 × Mem)) => some (.inr (.inl none, a4.2, 0))) := by rfl
def d_X1_begin (v1 : Int32) (v2 : Int32) (M : Mem) : Option (Res × Mem) := (onIt (iter (g_X1_begin_1) 20000 ((0 : Int32), (sL (sL (sI (sI (sI M 2 0 v1) 2 1 v2) 2 2 (v1 * v2)) 2 3 ((d_X7_bit (v1 * v2)) - (1 : Int64))) 2 4 (0 : Int64)))) (fun (a2 : Int32 × Mem) => (onIt (iter (g_X1_begin_3) 20000 ((0 : Int32), (sL a2.2 2 5 (0 : Int64)))) (fun (a4 : Int32 × Mem) => some (.inl none, a4.2)) (fun r => some r))) (fun r => some r))
set_option maxHeartbeats 2000000 in
theorem r_X1_begin (v1 : Int32) (v2 : Int32) (M : Mem) : RG C_X1_begin (0, [some (.ref 2), some (.int v1), some (.int v2), none], [], M, 0) (d_X1_begin v1 v2 M) (fun r => .inr r) := by
  unfold d_X1_begin
  refine RG.st 25 (congrFun (congrFun (congrFun b_X1_begin_0 v1) v2) M) ?_
  refine RG.loop (hd := (fun (a1 : Int32 × Mem) => (43, [some (.ref 2), some (.int v1), some (.int v2), some (.int a1.1)], [], a1.2, 0))) (ex := (fun (a1 : Int32 × Mem) => (75, [some (.ref 2), some (.int v1), some (.int v2), some (.int a1.1)], [], a1.2, 0))) (rt := id) (l_X1_begin_1 v1 v2 M) (fun a2 => ?_) (fun r v h => by cases h; rfl)
  show RG C_X1_begin (75, [some (.ref 2), some (.int v1), some (.int v2), some (.int a2.1)], [], a2.2, 0) _ _
  refine RG.st 5 (congrFun (congrFun (congrFun b_X1_begin_3 v1) v2) a2) ?_
  refine RG.loop (hd := (fun (a3 : Int32 × Mem) => (82, [some (.ref 2), some (.int v1), some (.int v2), some (.int a3.1)], [], a3.2, 0))) (ex := (fun (a3 : Int32 × Mem) => (132, [some (.ref 2), some (.int v1), some (.int v2), some (.int a3.1)], [], a3.2, 0))) (rt := id) (l_X1_begin_3 v1 v2 M a2) (fun a4 => ?_) (fun r v h => by cases h; rfl)
  show RG C_X1_begin (132, [some (.ref 2), some (.int v1), some (.int v2), some (.int a4.1)], [], a4.2, 0) _ _
  exact RG.fin rfl (Rend.run 1 (congrFun (congrFun (congrFun b_X1_begin_8 v1) v2) a4))
def fn_X1_begin : Fn := fun av M => match av with
  | [.ref r0, .int v1, .int v2] => bif Nat.beq r0 2 then (d_X1_begin v1 v2 M) else (none)
  | _ => none
theorem cfg_X1_begin : CfgOK RX1 cX1_begin (C_X1_begin) 3 := ⟨tk_X1_begin, csF_nd, flk_X1, (List.forall_mem_cons.mpr ⟨Or.inr ⟨yX7_bit, cX7_bit, 1, (some .long), none, 1, ok_X7_bit, by decide, by decide, w_code_Sumsetry_bit__I_J, w_initialized_Sumsetry, ⟨by decide, by decide⟩, Or.inr (Or.inl ⟨rfl, rfl, show (parseMethodDescriptor yX7_bit.desc).map (fun d => d.parameters.length) = some 1 from by decide +kernel, ⟨"Sumsetry", by decide +kernel⟩, w_static_Sumsetry_bit__I_J⟩)⟩,
    List.forall_mem_cons.mpr ⟨Or.inr ⟨yX1_multiple, cX1_multiple, 3, (some .int), none, 2, ok_X1_multiple, by decide, by decide, w_code_Sumsetry_Group_multiple__II_I, w_initialized_Sumsetry_Group, ⟨by decide, by decide⟩, Or.inr (Or.inr ⟨rfl, rfl, show (parseMethodDescriptor yX1_multiple.desc).map (fun d => d.parameters.length + 1) = some 3 from by decide +kernel, w_methodLink_Sumsetry_Group_43, w_instanceMethod_Sumsetry_Group_multiple__II_I, w_selects_Sumsetry_Group_multiple__II_I, ⟨_, rfl, rfl⟩⟩)⟩,
    List.forall_mem_cons.mpr ⟨Or.inr ⟨yX7_lay, cX7_lay, 3, none, none, 1, ok_X7_lay, by decide, by decide, w_code_Sumsetry_lay___III_V, w_initialized_Sumsetry, ⟨by decide, by decide⟩, Or.inr (Or.inl ⟨rfl, rfl, show (parseMethodDescriptor yX7_lay.desc).map (fun d => d.parameters.length) = some 3 from by decide +kernel, ⟨"Sumsetry", by decide +kernel⟩, w_static_Sumsetry_lay___III_V⟩)⟩, fun _ h => absurd h List.not_mem_nil⟩⟩⟩), ink_X1, lgk_X1, fun e h => absurd h List.not_mem_nil, (fun h hh => absurd hh List.not_mem_nil)⟩
theorem ok_X1_begin : OkM csF yX1_begin (Cond.code yX1_begin cX1_begin 4 none) 3 0 fn_X1_begin :=
  OkM_of (own := RX1) (C := C_X1_begin) (by decide +kernel) rfl (cfg_X1_begin) rfl rfl rfl rfl (by
    intro av M o M' h
    unfold fn_X1_begin at h
    split at h
    · rename_i r0 v1 v2
      rcases bif_cs h with ⟨hb, h⟩ | ⟨-, h⟩
      · skip
        have hr0 := hb
        obtain rfl := Nat.eq_of_beq_eq_true hr0
        exact ⟨rfl, Nat.le_of_ble_eq_true rfl, (r_X1_begin v1 v2 M) (o, M') h⟩
      · cases h
    · cases h)
def t_X1_hasAll : List (Nat × Instr × Nat) := [(0, .lload_n 1, 1), (1, .aload_n 0, 1), (2, .getfield 33, 3), (5, .ldc2_w 51, 3), (8, .lxor, 1), (9, .land, 1), (10, .lconst 0, 1), (11, .lcmp, 1), (12, .ifCond .ne 7, 3), (15, .iconst 1, 1), (16, .goto 4, 3), (19, .iconst 0, 1), (20, .ireturn, 1)]
theorem tk_X1_hasAll : ∀ x ∈ t_X1_hasAll, decode cX1_hasAll x.1 = .ok x.2 := by decide +kernel
def C_X1_hasAll : Cfg := (t_X1_hasAll, csF, fl_X1, [], in_X1, lg_X1, [], [], none, (some .boolean), 0)
set_option maxRecDepth 100000 in
theorem b_X1_hasAll_0 : (fun (v1 : Int64) (M : Mem) => run C_X1_hasAll 9 (0, [some (.ref 2), some (.long v1), none], [], M, 0)) = (fun (v1 : Int64) (M : Mem) => some (.inl ((br (!decide ((lg_cmp (v1 &&& ((M.2 2 3) ^^^ (-1 : Int64))) (0 : Int64)) = 0)) 12 3 (7)), [some (.ref 2), some (.long v1), none], [], M, 0))) := by rfl
set_option maxRecDepth 100000 in
theorem b_X1_hasAll_1 : (fun (v1 : Int64) (M : Mem) => run C_X1_hasAll 3 (15, [some (.ref 2), some (.long v1), none], [], M, 0)) = (fun (v1 : Int64) (M : Mem) => some (.inr (.inl (some (.int (1 : Int32))), M, 0))) := by rfl
set_option maxRecDepth 100000 in
theorem b_X1_hasAll_2 : (fun (v1 : Int64) (M : Mem) => run C_X1_hasAll 2 (19, [some (.ref 2), some (.long v1), none], [], M, 0)) = (fun (v1 : Int64) (M : Mem) => some (.inr (.inl (some (.int (0 : Int32))), M, 0))) := by rfl
def d_X1_hasAll (v1 : Int64) (M : Mem) : Int32 := (if (lg_cmp (v1 &&& ((M.2 2 3) ^^^ (-1 : Int64))) (0 : Int64)) = 0 then (1 : Int32) else (0 : Int32))
set_option maxHeartbeats 2000000 in
theorem r_X1_hasAll (v1 : Int64) (M : Mem) : RG C_X1_hasAll (0, [some (.ref 2), some (.long v1), none], [], M, 0) (some (d_X1_hasAll v1 M)) (fun v => .inr (.inl (some (.int v)), M)) := by
  unfold d_X1_hasAll
  refine RG.st 9 (congrFun (congrFun b_X1_hasAll_0 v1) M) ?_
  refine RG.ites (fun h1 => RG.brNF (q := 15) h1 rfl ?_) (fun h1 => RG.brNT (q := 19) h1 rfl ?_)
  · exact RG.fin rfl (Rend.run 3 (congrFun (congrFun b_X1_hasAll_1 v1) M))
  · exact RG.fin rfl (Rend.run 2 (congrFun (congrFun b_X1_hasAll_2 v1) M))
def fn_X1_hasAll : Fn := fun av M => match av with
  | [.ref r0, .long v1] => bif Nat.beq r0 2 then some (.inl (some (.int (d_X1_hasAll v1 M))), M) else (none)
  | _ => none
theorem cfg_X1_hasAll : CfgOK RX1 cX1_hasAll (C_X1_hasAll) 1 := ⟨tk_X1_hasAll, csF_nd, flk_X1, (fun e h => absurd h List.not_mem_nil), ink_X1, lgk_X1, fun e h => absurd h List.not_mem_nil, (fun h hh => absurd hh List.not_mem_nil)⟩
theorem ok_X1_hasAll : OkM csF yX1_hasAll (Cond.code yX1_hasAll cX1_hasAll 3 (some .boolean)) 1 0 fn_X1_hasAll :=
  OkM_of (own := RX1) (C := C_X1_hasAll) (by decide +kernel) rfl (cfg_X1_hasAll) rfl rfl rfl rfl (by
    intro av M o M' h
    unfold fn_X1_hasAll at h
    split at h
    · rename_i r0 v1
      rcases bif_cs h with ⟨hb, h⟩ | ⟨-, h⟩
      · skip
        have hr0 := hb
        obtain rfl := Nat.eq_of_beq_eq_true hr0
        cases h
        exact ⟨rfl, Nat.le_of_ble_eq_true rfl, (r_X1_hasAll v1 M) _ rfl⟩
      · cases h
    · cases h)
def t_X1_plus : List (Nat × Instr × Nat) := [(0, .iload_n 1, 1), (1, .aload_n 0, 1), (2, .getfield 23, 3), (5, .invokestatic 53, 3), (8, .iload_n 2, 1), (9, .aload_n 0, 1), (10, .getfield 23, 3), (13, .invokestatic 53, 3), (16, .iadd, 1), (17, .aload_n 0, 1), (18, .getfield 19, 3), (21, .invokestatic 56, 3), (24, .istore_n 3, 1), (25, .iload_n 1, 1), (26, .aload_n 0, 1), (27, .getfield 23, 3), (30, .invokestatic 56, 3), (33, .iload_n 2, 1), (34, .aload_n 0, 1), (35, .getfield 23, 3), (38, .invokestatic 56, 3), (41, .iadd, 1), (42, .aload_n 0, 1), (43, .getfield 23, 3), (46, .invokestatic 56, 3), (49, .istore 4, 2), (51, .aload_n 0, 1), (52, .getfield 23, 3), (55, .iload_n 3, 1), (56, .imul, 1), (57, .iload 4, 2), (59, .iadd, 1), (60, .ireturn, 1)]
theorem tk_X1_plus : ∀ x ∈ t_X1_plus, decode cX1_plus x.1 = .ok x.2 := by decide +kernel
def C_X1_plus : Cfg := (t_X1_plus, csF, fl_X1, [(53, 1, 5, 2, 0, fn_X7_share), (56, 1, 5, 2, 0, fn_X7_rest)], in_X1, lg_X1, [], [], none, (some .int), 0)
set_option maxRecDepth 100000 in
theorem b_X1_plus_0 : (fun (v1 : Int32) (v2 : Int32) (M : Mem) => run C_X1_plus 33 (0, [some (.ref 2), some (.int v1), some (.int v2), none, none], [], M, 0)) = (fun (v1 : Int32) (v2 : Int32) (M : Mem) => some (.inr (.inl (some (.int (((M.1 2 1) * (d_X7_rest ((d_X7_share v1 (M.1 2 1)) + (d_X7_share v2 (M.1 2 1))) (M.1 2 0))) + (d_X7_rest ((d_X7_rest v1 (M.1 2 1)) + (d_X7_rest v2 (M.1 2 1))) (M.1 2 1))))), M, 0))) := by rfl
def d_X1_plus (v1 : Int32) (v2 : Int32) (M : Mem) : Int32 := (((M.1 2 1) * (d_X7_rest ((d_X7_share v1 (M.1 2 1)) + (d_X7_share v2 (M.1 2 1))) (M.1 2 0))) + (d_X7_rest ((d_X7_rest v1 (M.1 2 1)) + (d_X7_rest v2 (M.1 2 1))) (M.1 2 1)))
set_option maxHeartbeats 2000000 in
theorem r_X1_plus (v1 : Int32) (v2 : Int32) (M : Mem) : RG C_X1_plus (0, [some (.ref 2), some (.int v1), some (.int v2), none, none], [], M, 0) (some (d_X1_plus v1 v2 M)) (fun v => .inr (.inl (some (.int v)), M)) := by
  unfold d_X1_plus
  exact RG.fin rfl (Rend.run 33 (congrFun (congrFun (congrFun b_X1_plus_0 v1) v2) M))
def fn_X1_plus : Fn := fun av M => match av with
  | [.ref r0, .int v1, .int v2] => bif Nat.beq r0 2 then some (.inl (some (.int (d_X1_plus v1 v2 M))), M) else (none)
  | _ => none
theorem cfg_X1_plus : CfgOK RX1 cX1_plus (C_X1_plus) 2 := ⟨tk_X1_plus, csF_nd, flk_X1, (List.forall_mem_cons.mpr ⟨Or.inr ⟨yX7_share, cX7_share, 2, (some .int), none, 1, ok_X7_share, by decide, by decide, w_code_Sumsetry_share__II_I, w_initialized_Sumsetry, ⟨by decide, by decide⟩, Or.inr (Or.inl ⟨rfl, rfl, show (parseMethodDescriptor yX7_share.desc).map (fun d => d.parameters.length) = some 2 from by decide +kernel, ⟨"Sumsetry", by decide +kernel⟩, w_static_Sumsetry_share__II_I⟩)⟩,
    List.forall_mem_cons.mpr ⟨Or.inr ⟨yX7_rest, cX7_rest, 3, (some .int), none, 1, ok_X7_rest, by decide, by decide, w_code_Sumsetry_rest__II_I, w_initialized_Sumsetry, ⟨by decide, by decide⟩, Or.inr (Or.inl ⟨rfl, rfl, show (parseMethodDescriptor yX7_rest.desc).map (fun d => d.parameters.length) = some 2 from by decide +kernel, ⟨"Sumsetry", by decide +kernel⟩, w_static_Sumsetry_rest__II_I⟩)⟩, fun _ h => absurd h List.not_mem_nil⟩⟩), ink_X1, lgk_X1, fun e h => absurd h List.not_mem_nil, (fun h hh => absurd hh List.not_mem_nil)⟩
theorem ok_X1_plus : OkM csF yX1_plus (Cond.code yX1_plus cX1_plus 5 (some .int)) 2 0 fn_X1_plus :=
  OkM_of (own := RX1) (C := C_X1_plus) (by decide +kernel) rfl (cfg_X1_plus) rfl rfl rfl rfl (by
    intro av M o M' h
    unfold fn_X1_plus at h
    split at h
    · rename_i r0 v1 v2
      rcases bif_cs h with ⟨hb, h⟩ | ⟨-, h⟩
      · skip
        have hr0 := hb
        obtain rfl := Nat.eq_of_beq_eq_true hr0
        cases h
        exact ⟨rfl, Nat.le_of_ble_eq_true rfl, (r_X1_plus v1 v2 M) _ rfl⟩
      · cases h
    · cases h)
def t_X1_multiples : List (Nat × Instr × Nat) := [(0, .lconst 0, 1), (1, .lstore 4, 2), (3, .iconst 0, 1), (4, .istore 6, 2), (6, .iload 6, 2), (8, .aload_n 0, 1), (9, .getfield 26, 3), (12, .if_icmp .ge 33, 3), (15, .lload_n 2, 1), (16, .iload 6, 2), (18, .invokestatic 63, 3), (21, .ifCond .eq 18, 3), (24, .lload 4, 2), (26, .aload_n 0, 1), (27, .iload_n 1, 1), (28, .iload 6, 2), (30, .invokevirtual 43, 3), (33, .invokestatic 29, 3), (36, .lor, 1), (37, .lstore 4, 2), (39, .iinc 6 1, 3), (42, .goto (-36), 3), (45, .lload 4, 2), (47, .lreturn, 1)]
theorem tk_X1_multiples : ∀ x ∈ t_X1_multiples, decode cX1_multiples x.1 = .ok x.2 := by decide +kernel
def C_X1_multiples : Cfg := (t_X1_multiples, csF, fl_X1, [(29, 1, 5, 1, 0, fn_X7_bit), (43, 2, 1, 3, 0, fn_X1_multiple), (63, 1, 5, 2, 0, fn_X7_has)], in_X1, lg_X1, [], [], none, (some .long), 0)
set_option maxRecDepth 100000 in
theorem b_X1_multiples_0 : (fun (v1 : Int32) (v2 : Int64) (M : Mem) => run C_X1_multiples 4 (0, [some (.ref 2), some (.int v1), some (.long v2), none, none, none, none], [], M, 0)) = (fun (v1 : Int32) (v2 : Int64) (M : Mem) => some (.inl (6, [some (.ref 2), some (.int v1), some (.long v2), none, some (.long (0 : Int64)), none, some (.int (0 : Int32))], [], M, 0))) := by rfl
set_option maxRecDepth 100000 in
theorem b_X1_multiples_1 : (fun (v1 : Int32) (v2 : Int64) (M : Mem) (a1 : (Int64 × Int32)) => run C_X1_multiples 4 (6, [some (.ref 2), some (.int v1), some (.long v2), none, some (.long a1.1), none, some (.int a1.2)], [], M, 0)) = (fun (v1 : Int32) (v2 : Int64) (M : Mem) (a1 : (Int64 × Int32)) => some (.inl ((br (!decide (a1.2 < (M.1 2 2))) 12 3 (33)), [some (.ref 2), some (.int v1), some (.long v2), none, some (.long a1.1), none, some (.int a1.2)], [], M, 0))) := by rfl
set_option maxRecDepth 100000 in
theorem b_X1_multiples_2 : (fun (v1 : Int32) (v2 : Int64) (M : Mem) (a1 : (Int64 × Int32)) => run C_X1_multiples 4 (15, [some (.ref 2), some (.int v1), some (.long v2), none, some (.long a1.1), none, some (.int a1.2)], [], M, 0)) = (fun (v1 : Int32) (v2 : Int64) (M : Mem) (a1 : (Int64 × Int32)) => some (.inl ((br (decide ((d_X7_has v2 a1.2) = 0)) 21 3 (18)), [some (.ref 2), some (.int v1), some (.long v2), none, some (.long a1.1), none, some (.int a1.2)], [], M, 0))) := by rfl
set_option maxRecDepth 100000 in
theorem b_X1_multiples_3 : (fun (v1 : Int32) (v2 : Int64) (M : Mem) (a1 : (Int64 × Int32)) => run C_X1_multiples 8 (24, [some (.ref 2), some (.int v1), some (.long v2), none, some (.long a1.1), none, some (.int a1.2)], [], M, 0)) = (fun (v1 : Int32) (v2 : Int64) (M : Mem) (a1 : (Int64 × Int32)) => some (.inl (39, [some (.ref 2), some (.int v1), some (.long v2), none, some (.long (a1.1 ||| (d_X7_bit (d_X1_multiple v1 a1.2 M)))), none, some (.int a1.2)], [], M, 0))) := by rfl
theorem m_X1_multiples_0 (v1 : Int32) (v2 : Int64) (M : Mem) (a1 : (Int64 × Int32)) : Rto C_X1_multiples (15, [some (.ref 2), some (.int v1), some (.long v2), none, some (.long a1.1), none, some (.int a1.2)], [], M, 0) (39, [some (.ref 2), some (.int v1), some (.long v2), none, some (.long (if (d_X7_has v2 a1.2) = 0 then a1.1 else (a1.1 ||| (d_X7_bit (d_X1_multiple v1 a1.2 M))))), none, some (.int a1.2)], [], M, 0) := by
  refine Rto.trans (Rto.run 4 (congrFun (congrFun (congrFun (congrFun b_X1_multiples_2 v1) v2) M) a1)) ?_
  by_cases h : (d_X7_has v2 a1.2) = 0
  · refine Rto.trans (Rto.brT (q := 39) h rfl) ?_
    exact Rto.eq (by first | (simp only [if_pos h]; done) | rfl | exact absurd rfl h | (simp; done))
  · refine Rto.trans (Rto.brF (q := 24) h rfl) ?_
    refine Rto.trans (Rto.run 8 (congrFun (congrFun (congrFun (congrFun b_X1_multiples_3 v1) v2) M) a1)) ?_
    exact Rto.eq (by first | (simp only [if_neg h]; done) | rfl | exact absurd rfl h | (simp; done))
set_option maxRecDepth 100000 in
theorem b_X1_multiples_4 : (fun (v1 : Int32) (v2 : Int64) (M : Mem) (a1 : (Int64 × Int32)) => run C_X1_multiples 2 (39, [some (.ref 2), some (.int v1), some (.long v2), none, some (.long (if (d_X7_has v2 a1.2) = 0 then a1.1 else (a1.1 ||| (d_X7_bit (d_X1_multiple v1 a1.2 M))))), none, some (.int a1.2)], [], M, 0)) = (fun (v1 : Int32) (v2 : Int64) (M : Mem) (a1 : (Int64 × Int32)) => some (.inl (6, [some (.ref 2), some (.int v1), some (.long v2), none, some (.long (if (d_X7_has v2 a1.2) = 0 then a1.1 else (a1.1 ||| (d_X7_bit (d_X1_multiple v1 a1.2 M))))), none, some (.int (a1.2 + (1 : Int32)))], [], M, 0))) := by rfl
def g_X1_multiples_1 (v1 : Int32) (v2 : Int64) (M : Mem) : Int64 × Int32 → Option ((Int64 × Int32) ⊕ ((Int64 × Int32) ⊕ Int64)) := fun (a1 : Int64 × Int32) => (if a1.2 < (M.1 2 2) then some (.inl ((if (d_X7_has v2 a1.2) = 0 then a1.1 else (a1.1 ||| (d_X7_bit (d_X1_multiple v1 a1.2 M)))), (a1.2 + (1 : Int32)))) else some (.inr (.inl (a1.1, a1.2))))
set_option maxHeartbeats 2000000 in
theorem l_X1_multiples_1 (v1 : Int32) (v2 : Int64) (M : Mem) : ∀ a1 : Int64 × Int32, RG C_X1_multiples ((fun (a1 : Int64 × Int32) => (6, [some (.ref 2), some (.int v1), some (.long v2), none, some (.long a1.1), none, some (.int a1.2)], [], M, 0)) a1) (g_X1_multiples_1 v1 v2 M a1) (lpP (fun (a1 : Int64 × Int32) => (6, [some (.ref 2), some (.int v1), some (.long v2), none, some (.long a1.1), none, some (.int a1.2)], [], M, 0)) (fun (a1 : Int64 × Int32) => (45, [some (.ref 2), some (.int v1), some (.long v2), none, some (.long a1.1), none, some (.int a1.2)], [], M, 0)) (fun (v : Int64) => (.inl (some (.long v)), M))) := by
  intro a1
  unfold g_X1_multiples_1
  show RG C_X1_multiples (6, [some (.ref 2), some (.int v1), some (.long v2), none, some (.long a1.1), none, some (.int a1.2)], [], M, 0) _ _
  refine RG.st 4 (congrFun (congrFun (congrFun (congrFun b_X1_multiples_1 v1) v2) M) a1) ?_
  refine RG.ite (fun h1 => RG.brNF (q := 15) h1 rfl ?_) (fun h1 => RG.brNT (q := 45) h1 rfl ?_)
  · refine RG.step (m_X1_multiples_0 v1 v2 M a1) ?_
    refine RG.st 2 (congrFun (congrFun (congrFun (congrFun b_X1_multiples_4 v1) v2) M) a1) ?_
    exact RG.to rfl (Rto.refl _)
  · exact RG.to rfl (Rto.refl _)
set_option maxRecDepth 100000 in
theorem b_X1_multiples_5 : (fun (v1 : Int32) (v2 : Int64) (M : Mem) (a2 : (Int64 × Int32)) => run C_X1_multiples 2 (45, [some (.ref 2), some (.int v1), some (.long v2), none, some (.long a2.1), none, some (.int a2.2)], [], M, 0)) = (fun (v1 : Int32) (v2 : Int64) (M : Mem) (a2 : (Int64 × Int32)) => some (.inr (.inl (some (.long a2.1)), M, 0))) := by rfl
def d_X1_multiples (v1 : Int32) (v2 : Int64) (M : Mem) : Option Int64 := (onIt (iter (g_X1_multiples_1 v1 v2 M) 20000 ((0 : Int64), (0 : Int32))) (fun (a2 : Int64 × Int32) => some a2.1) (fun r => some r))
set_option maxHeartbeats 2000000 in
theorem r_X1_multiples (v1 : Int32) (v2 : Int64) (M : Mem) : RG C_X1_multiples (0, [some (.ref 2), some (.int v1), some (.long v2), none, none, none, none], [], M, 0) (d_X1_multiples v1 v2 M) (fun v => .inr (.inl (some (.long v)), M)) := by
  unfold d_X1_multiples
  refine RG.st 4 (congrFun (congrFun (congrFun b_X1_multiples_0 v1) v2) M) ?_
  refine RG.loop (hd := (fun (a1 : Int64 × Int32) => (6, [some (.ref 2), some (.int v1), some (.long v2), none, some (.long a1.1), none, some (.int a1.2)], [], M, 0))) (ex := (fun (a1 : Int64 × Int32) => (45, [some (.ref 2), some (.int v1), some (.long v2), none, some (.long a1.1), none, some (.int a1.2)], [], M, 0))) (rt := (fun (v : Int64) => (.inl (some (.long v)), M))) (l_X1_multiples_1 v1 v2 M) (fun a2 => ?_) (fun r v h => by cases h; rfl)
  show RG C_X1_multiples (45, [some (.ref 2), some (.int v1), some (.long v2), none, some (.long a2.1), none, some (.int a2.2)], [], M, 0) _ _
  exact RG.fin rfl (Rend.run 2 (congrFun (congrFun (congrFun (congrFun b_X1_multiples_5 v1) v2) M) a2))
def fn_X1_multiples : Fn := fun av M => match av with
  | [.ref r0, .int v1, .long v2] => bif Nat.beq r0 2 then (d_X1_multiples v1 v2 M).bind fun v => some (.inl (some (.long v)), M) else (none)
  | _ => none
theorem cfg_X1_multiples : CfgOK RX1 cX1_multiples (C_X1_multiples) 3 := ⟨tk_X1_multiples, csF_nd, flk_X1, (List.forall_mem_cons.mpr ⟨Or.inr ⟨yX7_bit, cX7_bit, 1, (some .long), none, 1, ok_X7_bit, by decide, by decide, w_code_Sumsetry_bit__I_J, w_initialized_Sumsetry, ⟨by decide, by decide⟩, Or.inr (Or.inl ⟨rfl, rfl, show (parseMethodDescriptor yX7_bit.desc).map (fun d => d.parameters.length) = some 1 from by decide +kernel, ⟨"Sumsetry", by decide +kernel⟩, w_static_Sumsetry_bit__I_J⟩)⟩,
    List.forall_mem_cons.mpr ⟨Or.inr ⟨yX1_multiple, cX1_multiple, 3, (some .int), none, 2, ok_X1_multiple, by decide, by decide, w_code_Sumsetry_Group_multiple__II_I, w_initialized_Sumsetry_Group, ⟨by decide, by decide⟩, Or.inr (Or.inr ⟨rfl, rfl, show (parseMethodDescriptor yX1_multiple.desc).map (fun d => d.parameters.length + 1) = some 3 from by decide +kernel, w_methodLink_Sumsetry_Group_43, w_instanceMethod_Sumsetry_Group_multiple__II_I, w_selects_Sumsetry_Group_multiple__II_I, ⟨_, rfl, rfl⟩⟩)⟩,
    List.forall_mem_cons.mpr ⟨Or.inr ⟨yX7_has, cX7_has, 3, (some .boolean), none, 1, ok_X7_has, by decide, by decide, w_code_Sumsetry_has__JI_Z, w_initialized_Sumsetry, ⟨by decide, by decide⟩, Or.inr (Or.inl ⟨rfl, rfl, show (parseMethodDescriptor yX7_has.desc).map (fun d => d.parameters.length) = some 2 from by decide +kernel, ⟨"Sumsetry", by decide +kernel⟩, w_static_Sumsetry_has__JI_Z⟩)⟩, fun _ h => absurd h List.not_mem_nil⟩⟩⟩), ink_X1, lgk_X1, fun e h => absurd h List.not_mem_nil, (fun h hh => absurd hh List.not_mem_nil)⟩
theorem ok_X1_multiples : OkM csF yX1_multiples (Cond.code yX1_multiples cX1_multiples 7 (some .long)) 3 0 fn_X1_multiples :=
  OkM_of (own := RX1) (C := C_X1_multiples) (by decide +kernel) rfl (cfg_X1_multiples) rfl rfl rfl rfl (by
    intro av M o M' h
    unfold fn_X1_multiples at h
    split at h
    · rename_i r0 v1 v2
      rcases bif_cs h with ⟨hb, h⟩ | ⟨-, h⟩
      · skip
        have hr0 := hb
        obtain rfl := Nat.eq_of_beq_eq_true hr0
        obtain ⟨w, hw, h⟩ := bind_cs h
        cases h
        exact ⟨rfl, Nat.le_of_ble_eq_true rfl, (r_X1_multiples v1 v2 M) w hw⟩
      · cases h
    · cases h)
def t_X1_sumOf : List (Nat × Instr × Nat) := [(0, .lconst 0, 1), (1, .lstore 5, 2), (3, .lload_n 3, 1), (4, .lstore 7, 2), (6, .lload_n 3, 1), (7, .invokestatic 67, 3), (10, .istore 9, 2), (12, .iload 9, 2), (14, .ifCond .le 31, 3), (17, .lload 5, 2), (19, .aload_n 0, 1), (20, .lload_n 1, 1), (21, .lload 7, 2), (23, .invokestatic 73, 3), (26, .invokevirtual 84, 3), (29, .lor, 1), (30, .lstore 5, 2), (32, .lload 7, 2), (34, .invokestatic 80, 3), (37, .lstore 7, 2), (39, .iinc 9 (-1), 3), (42, .goto (-30), 3), (45, .lload 5, 2), (47, .lreturn, 1)]
theorem tk_X1_sumOf : ∀ x ∈ t_X1_sumOf, decode cX1_sumOf x.1 = .ok x.2 := by decide +kernel
def C_X1_sumOf : Cfg := (t_X1_sumOf, csF, fl_X1, [(67, 0, 0, 1, 0, fn_J13_bitCount_95d88), (73, 1, 5, 1, 0, fn_X7_lowest), (80, 1, 5, 1, 0, fn_X7_withoutLowest), (84, 2, 1, 3, 0, fn_X1_shifted)], in_X1, lg_X1, [], [], none, (some .long), 0)
set_option maxRecDepth 100000 in
theorem b_X1_sumOf_0 : (fun (v1 : Int64) (v3 : Int64) (M : Mem) => run C_X1_sumOf 7 (0, [some (.ref 2), some (.long v1), none, some (.long v3), none, none, none, none, none, none], [], M, 0)) = (fun (v1 : Int64) (v3 : Int64) (M : Mem) => some (.inl (12, [some (.ref 2), some (.long v1), none, some (.long v3), none, some (.long (0 : Int64)), none, some (.long v3), none, some (.int (d_J13_bitCount_95d88 v3))], [], M, 0))) := by rfl
set_option maxRecDepth 100000 in
theorem b_X1_sumOf_1 : (fun (v1 : Int64) (v3 : Int64) (M : Mem) (a1 : (Int64 × Int64 × Int32)) => run C_X1_sumOf 2 (12, [some (.ref 2), some (.long v1), none, some (.long v3), none, some (.long a1.1), none, some (.long a1.2.1), none, some (.int a1.2.2)], [], M, 0)) = (fun (v1 : Int64) (v3 : Int64) (M : Mem) (a1 : (Int64 × Int64 × Int32)) => some (.inl ((br (decide (a1.2.2 ≤ 0)) 14 3 (31)), [some (.ref 2), some (.long v1), none, some (.long v3), none, some (.long a1.1), none, some (.long a1.2.1), none, some (.int a1.2.2)], [], M, 0))) := by rfl
set_option maxRecDepth 100000 in
theorem b_X1_sumOf_2 : (fun (v1 : Int64) (v3 : Int64) (M : Mem) (a1 : (Int64 × Int64 × Int32)) => run C_X1_sumOf 13 (17, [some (.ref 2), some (.long v1), none, some (.long v3), none, some (.long a1.1), none, some (.long a1.2.1), none, some (.int a1.2.2)], [], M, 0)) = (fun (v1 : Int64) (v3 : Int64) (M : Mem) (a1 : (Int64 × Int64 × Int32)) => some (.inl (12, [some (.ref 2), some (.long v1), none, some (.long v3), none, some (.long (a1.1 ||| (d_X1_shifted v1 (d_X7_lowest a1.2.1) M))), none, some (.long (d_X7_withoutLowest a1.2.1)), none, some (.int (a1.2.2 + (-1 : Int32)))], [], M, 0))) := by rfl
def g_X1_sumOf_1 (v1 : Int64) (M : Mem) : Int64 × Int64 × Int32 → Option ((Int64 × Int64 × Int32) ⊕ ((Int64 × Int64 × Int32) ⊕ Int64)) := fun (a1 : Int64 × Int64 × Int32) => (if a1.2.2 ≤ 0 then some (.inr (.inl (a1.1, a1.2.1, a1.2.2))) else some (.inl ((a1.1 ||| (d_X1_shifted v1 (d_X7_lowest a1.2.1) M)), (d_X7_withoutLowest a1.2.1), (a1.2.2 + (-1 : Int32)))))
set_option maxHeartbeats 2000000 in
theorem l_X1_sumOf_1 (v1 : Int64) (v3 : Int64) (M : Mem) : ∀ a1 : Int64 × Int64 × Int32, RG C_X1_sumOf ((fun (a1 : Int64 × Int64 × Int32) => (12, [some (.ref 2), some (.long v1), none, some (.long v3), none, some (.long a1.1), none, some (.long a1.2.1), none, some (.int a1.2.2)], [], M, 0)) a1) (g_X1_sumOf_1 v1 M a1) (lpP (fun (a1 : Int64 × Int64 × Int32) => (12, [some (.ref 2), some (.long v1), none, some (.long v3), none, some (.long a1.1), none, some (.long a1.2.1), none, some (.int a1.2.2)], [], M, 0)) (fun (a1 : Int64 × Int64 × Int32) => (45, [some (.ref 2), some (.long v1), none, some (.long v3), none, some (.long a1.1), none, some (.long a1.2.1), none, some (.int a1.2.2)], [], M, 0)) (fun (v : Int64) => (.inl (some (.long v)), M))) := by
  intro a1
  unfold g_X1_sumOf_1
  show RG C_X1_sumOf (12, [some (.ref 2), some (.long v1), none, some (.long v3), none, some (.long a1.1), none, some (.long a1.2.1), none, some (.int a1.2.2)], [], M, 0) _ _
  refine RG.st 2 (congrFun (congrFun (congrFun (congrFun b_X1_sumOf_1 v1) v3) M) a1) ?_
  refine RG.ite (fun h1 => RG.brT (q := 45) h1 rfl ?_) (fun h1 => RG.brF (q := 17) h1 rfl ?_)
  · exact RG.to rfl (Rto.refl _)
  · refine RG.st 13 (congrFun (congrFun (congrFun (congrFun b_X1_sumOf_2 v1) v3) M) a1) ?_
    exact RG.to rfl (Rto.refl _)
set_option maxRecDepth 100000 in
theorem b_X1_sumOf_3 : (fun (v1 : Int64) (v3 : Int64) (M : Mem) (a2 : (Int64 × Int64 × Int32)) => run C_X1_sumOf 2 (45, [some (.ref 2), some (.long v1), none, some (.long v3), none, some (.long a2.1), none, some (.long a2.2.1), none, some (.int a2.2.2)], [], M, 0)) = (fun (v1 : Int64) (v3 : Int64) (M : Mem) (a2 : (Int64 × Int64 × Int32)) => some (.inr (.inl (some (.long a2.1)), M, 0))) := by rfl
def d_X1_sumOf (v1 : Int64) (v3 : Int64) (M : Mem) : Option Int64 := (onIt (iter (g_X1_sumOf_1 v1 M) 20000 ((0 : Int64), v3, (d_J13_bitCount_95d88 v3))) (fun (a2 : Int64 × Int64 × Int32) => some a2.1) (fun r => some r))
set_option maxHeartbeats 2000000 in
theorem r_X1_sumOf (v1 : Int64) (v3 : Int64) (M : Mem) : RG C_X1_sumOf (0, [some (.ref 2), some (.long v1), none, some (.long v3), none, none, none, none, none, none], [], M, 0) (d_X1_sumOf v1 v3 M) (fun v => .inr (.inl (some (.long v)), M)) := by
  unfold d_X1_sumOf
  refine RG.st 7 (congrFun (congrFun (congrFun b_X1_sumOf_0 v1) v3) M) ?_
  refine RG.loop (hd := (fun (a1 : Int64 × Int64 × Int32) => (12, [some (.ref 2), some (.long v1), none, some (.long v3), none, some (.long a1.1), none, some (.long a1.2.1), none, some (.int a1.2.2)], [], M, 0))) (ex := (fun (a1 : Int64 × Int64 × Int32) => (45, [some (.ref 2), some (.long v1), none, some (.long v3), none, some (.long a1.1), none, some (.long a1.2.1), none, some (.int a1.2.2)], [], M, 0))) (rt := (fun (v : Int64) => (.inl (some (.long v)), M))) (l_X1_sumOf_1 v1 v3 M) (fun a2 => ?_) (fun r v h => by cases h; rfl)
  show RG C_X1_sumOf (45, [some (.ref 2), some (.long v1), none, some (.long v3), none, some (.long a2.1), none, some (.long a2.2.1), none, some (.int a2.2.2)], [], M, 0) _ _
  exact RG.fin rfl (Rend.run 2 (congrFun (congrFun (congrFun (congrFun b_X1_sumOf_3 v1) v3) M) a2))
def fn_X1_sumOf : Fn := fun av M => match av with
  | [.ref r0, .long v1, .long v3] => bif Nat.beq r0 2 then (d_X1_sumOf v1 v3 M).bind fun v => some (.inl (some (.long v)), M) else (none)
  | _ => none
theorem cfg_X1_sumOf : CfgOK RX1 cX1_sumOf (C_X1_sumOf) 4 := ⟨tk_X1_sumOf, csF_nd, flk_X1, (List.forall_mem_cons.mpr ⟨Or.inr ⟨yJ13_bitCount_95d88, cJ13_bitCount_95d88, 2, (some .int), none, 1, ok_J13_bitCount_95d88, by decide, by decide, w_code_java_lang_Long_bitCount__J_I, w_initialized_java_lang_Long, ⟨by decide, by decide⟩, Or.inl ⟨rfl, show (parseMethodDescriptor yJ13_bitCount_95d88.desc).map (fun d => d.parameters.length) = some 1 from by decide +kernel, w_methodLink_Sumsetry_Group_67, w_static_java_lang_Long_bitCount__J_I⟩⟩,
    List.forall_mem_cons.mpr ⟨Or.inr ⟨yX7_lowest, cX7_lowest, 2, (some .int), none, 3, ok_X7_lowest, by decide, by decide, w_code_Sumsetry_lowest__J_I, w_initialized_Sumsetry, ⟨by decide, by decide⟩, Or.inr (Or.inl ⟨rfl, rfl, show (parseMethodDescriptor yX7_lowest.desc).map (fun d => d.parameters.length) = some 1 from by decide +kernel, ⟨"Sumsetry", by decide +kernel⟩, w_static_Sumsetry_lowest__J_I⟩)⟩,
    List.forall_mem_cons.mpr ⟨Or.inr ⟨yX7_withoutLowest, cX7_withoutLowest, 2, (some .long), none, 1, ok_X7_withoutLowest, by decide, by decide, w_code_Sumsetry_withoutLowest__J_J, w_initialized_Sumsetry, ⟨by decide, by decide⟩, Or.inr (Or.inl ⟨rfl, rfl, show (parseMethodDescriptor yX7_withoutLowest.desc).map (fun d => d.parameters.length) = some 1 from by decide +kernel, ⟨"Sumsetry", by decide +kernel⟩, w_static_Sumsetry_withoutLowest__J_J⟩)⟩,
    List.forall_mem_cons.mpr ⟨Or.inr ⟨yX1_shifted, cX1_shifted, 10, (some .long), none, 2, ok_X1_shifted, by decide, by decide, w_code_Sumsetry_Group_shifted__JI_J, w_initialized_Sumsetry_Group, ⟨by decide, by decide⟩, Or.inr (Or.inr ⟨rfl, rfl, show (parseMethodDescriptor yX1_shifted.desc).map (fun d => d.parameters.length + 1) = some 3 from by decide +kernel, w_methodLink_Sumsetry_Group_84, w_instanceMethod_Sumsetry_Group_shifted__JI_J, w_selects_Sumsetry_Group_shifted__JI_J, ⟨_, rfl, rfl⟩⟩)⟩, fun _ h => absurd h List.not_mem_nil⟩⟩⟩⟩), ink_X1, lgk_X1, fun e h => absurd h List.not_mem_nil, (fun h hh => absurd hh List.not_mem_nil)⟩
theorem ok_X1_sumOf : OkM csF yX1_sumOf (Cond.code yX1_sumOf cX1_sumOf 10 (some .long)) 4 0 fn_X1_sumOf :=
  OkM_of (own := RX1) (C := C_X1_sumOf) (by decide +kernel) rfl (cfg_X1_sumOf) rfl rfl rfl rfl (by
    intro av M o M' h
    unfold fn_X1_sumOf at h
    split at h
    · rename_i r0 v1 v3
      rcases bif_cs h with ⟨hb, h⟩ | ⟨-, h⟩
      · skip
        have hr0 := hb
        obtain rfl := Nat.eq_of_beq_eq_true hr0
        obtain ⟨w, hw, h⟩ := bind_cs h
        cases h
        exact ⟨rfl, Nat.le_of_ble_eq_true rfl, (r_X1_sumOf v1 v3 M) w hw⟩
      · cases h
    · cases h)
def t_X1_differenceOf : List (Nat × Instr × Nat) := [(0, .aload_n 0, 1), (1, .lload_n 1, 1), (2, .aload_n 0, 1), (3, .lload_n 3, 1), (4, .invokevirtual 88, 3), (7, .invokevirtual 91, 3), (10, .lreturn, 1)]
theorem tk_X1_differenceOf : ∀ x ∈ t_X1_differenceOf, decode cX1_differenceOf x.1 = .ok x.2 := by decide +kernel
def C_X1_differenceOf : Cfg := (t_X1_differenceOf, csF, fl_X1, [(88, 2, 1, 2, 0, fn_X1_mirrored), (91, 2, 1, 3, 0, fn_X1_sumOf)], in_X1, lg_X1, [], [], none, (some .long), 0)
set_option maxRecDepth 100000 in
theorem b_X1_differenceOf_0 : (fun (v1 : Int64) (v3 : Int64) (M : Mem) => run C_X1_differenceOf 4 (0, [some (.ref 2), some (.long v1), none, some (.long v3), none], [], M, 0)) = (fun (v1 : Int64) (v3 : Int64) (M : Mem) => some (.inl (4, [some (.ref 2), some (.long v1), none, some (.long v3), none], [.long v3, .ref 2, .long v1, .ref 2], M, 0))) := by rfl
set_option maxRecDepth 100000 in
theorem b_X1_differenceOf_1 : (fun (v1 : Int64) (v3 : Int64) (M : Mem) (w2 : Int64) => run C_X1_differenceOf 1 (10, [some (.ref 2), some (.long v1), none, some (.long v3), none], [.long w2], M, 0)) = (fun (v1 : Int64) (v3 : Int64) (M : Mem) (w2 : Int64) => some (.inr (.inl (some (.long w2)), M, 0))) := by rfl
def d_X1_differenceOf (v1 : Int64) (v3 : Int64) (M : Mem) : Option Int64 := ((d_X1_mirrored v3 M).bind fun w1 => ((d_X1_sumOf v1 w1 M).bind fun w2 => some w2))
set_option maxHeartbeats 2000000 in
theorem r_X1_differenceOf (v1 : Int64) (v3 : Int64) (M : Mem) : RG C_X1_differenceOf (0, [some (.ref 2), some (.long v1), none, some (.long v3), none], [], M, 0) (d_X1_differenceOf v1 v3 M) (fun v => .inr (.inl (some (.long v)), M)) := by
  unfold d_X1_differenceOf
  refine RG.st 4 (congrFun (congrFun (congrFun b_X1_differenceOf_0 v1) v3) M) ?_
  refine RG.bind (fun w1 h1 => RG.st 1 (run_callV (v := some (.long w1)) rfl rfl rfl rfl rfl (bindL h1)) ?_)
  show RG C_X1_differenceOf (7, [some (.ref 2), some (.long v1), none, some (.long v3), none], [.long w1, .long v1, .ref 2], M, 0) _ _
  refine RG.bind (fun w2 h2 => RG.st 1 (run_callV (v := some (.long w2)) rfl rfl rfl rfl rfl (bindL h2)) ?_)
  show RG C_X1_differenceOf (10, [some (.ref 2), some (.long v1), none, some (.long v3), none], [.long w2], M, 0) _ _
  exact RG.fin rfl (Rend.run 1 (congrFun (congrFun (congrFun (congrFun b_X1_differenceOf_1 v1) v3) M) w2))
def fn_X1_differenceOf : Fn := fun av M => match av with
  | [.ref r0, .long v1, .long v3] => bif Nat.beq r0 2 then (d_X1_differenceOf v1 v3 M).bind fun v => some (.inl (some (.long v)), M) else (none)
  | _ => none
theorem cfg_X1_differenceOf : CfgOK RX1 cX1_differenceOf (C_X1_differenceOf) 5 := ⟨tk_X1_differenceOf, csF_nd, flk_X1, (List.forall_mem_cons.mpr ⟨Or.inr ⟨yX1_mirrored, cX1_mirrored, 8, (some .long), none, 4, ok_X1_mirrored, by decide, by decide, w_code_Sumsetry_Group_mirrored__J_J, w_initialized_Sumsetry_Group, ⟨by decide, by decide⟩, Or.inr (Or.inr ⟨rfl, rfl, show (parseMethodDescriptor yX1_mirrored.desc).map (fun d => d.parameters.length + 1) = some 2 from by decide +kernel, w_methodLink_Sumsetry_Group_88, w_instanceMethod_Sumsetry_Group_mirrored__J_J, w_selects_Sumsetry_Group_mirrored__J_J, ⟨_, rfl, rfl⟩⟩)⟩,
    List.forall_mem_cons.mpr ⟨Or.inr ⟨yX1_sumOf, cX1_sumOf, 10, (some .long), none, 4, ok_X1_sumOf, by decide, by decide, w_code_Sumsetry_Group_sumOf__JJ_J, w_initialized_Sumsetry_Group, ⟨by decide, by decide⟩, Or.inr (Or.inr ⟨rfl, rfl, show (parseMethodDescriptor yX1_sumOf.desc).map (fun d => d.parameters.length + 1) = some 3 from by decide +kernel, w_methodLink_Sumsetry_Group_91, w_instanceMethod_Sumsetry_Group_sumOf__JJ_J, w_selects_Sumsetry_Group_sumOf__JJ_J, ⟨_, rfl, rfl⟩⟩)⟩, fun _ h => absurd h List.not_mem_nil⟩⟩), ink_X1, lgk_X1, fun e h => absurd h List.not_mem_nil, (fun h hh => absurd hh List.not_mem_nil)⟩
theorem ok_X1_differenceOf : OkM csF yX1_differenceOf (Cond.code yX1_differenceOf cX1_differenceOf 5 (some .long)) 5 0 fn_X1_differenceOf :=
  OkM_of (own := RX1) (C := C_X1_differenceOf) (by decide +kernel) rfl (cfg_X1_differenceOf) rfl rfl rfl rfl (by
    intro av M o M' h
    unfold fn_X1_differenceOf at h
    split at h
    · rename_i r0 v1 v3
      rcases bif_cs h with ⟨hb, h⟩ | ⟨-, h⟩
      · skip
        have hr0 := hb
        obtain rfl := Nat.eq_of_beq_eq_true hr0
        obtain ⟨w, hw, h⟩ := bind_cs h
        cases h
        exact ⟨rfl, Nat.le_of_ble_eq_true rfl, (r_X1_differenceOf v1 v3 M) w hw⟩
      · cases h
    · cases h)
