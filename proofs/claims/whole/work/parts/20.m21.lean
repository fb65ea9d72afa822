/-! methods: X8_bars, X8_image, X8_maps, X8_isFree, X8_isSidon -/
def t_X8_bars : List (Nat × Instr × Nat) := [(0, .aload_n 0, 1), (1, .iload_n 1, 1), (2, .invokevirtual 96, 3), (5, .ifCond .eq 20, 3), (8, .aload_n 0, 1), (9, .iload_n 2, 1), (10, .invokevirtual 96, 3), (13, .ifCond .eq 12, 3), (16, .iload 4, 2), (18, .ifCond .eq 7, 3), (21, .iconst 1, 1), (22, .goto 4, 3), (25, .iconst 0, 1), (26, .istore 5, 2), (28, .iload 5, 2), (30, .ifCond .ne 7, 3), (33, .iconst 1, 1), (34, .goto 49, 3), (37, .iload_n 3, 1), (38, .iconst 2, 1), (39, .iconst 3, 1), (40, .invokestatic 53, 3), (43, .ifCond .ne 7, 3), (46, .iconst 2, 1), (47, .goto 36, 3), (50, .aload_n 0, 1), (51, .getfield 16, 3), (54, .iload_n 1, 1), (55, .laload, 1), (56, .invokestatic 115, 3), (59, .bipush 6, 2), (61, .if_icmp .gt 17, 3), (64, .aload_n 0, 1), (65, .getfield 16, 3), (68, .iload_n 2, 1), (69, .laload, 1), (70, .invokestatic 115, 3), (73, .bipush 6, 2), (75, .if_icmp .le 7, 3), (78, .iconst 3, 1), (79, .goto 4, 3), (82, .iconst 0, 1), (83, .ireturn, 1)]
theorem tk_X8_bars : ∀ x ∈ t_X8_bars, decode cX8_bars x.1 = .ok x.2 := by decide +kernel
def C_X8_bars : Cfg := (t_X8_bars, csF, fl_X8, [(53, 0, 6, 3, 0, fn_X8_isIn), (96, 2, 6, 2, 0, fn_X8_isSet), (115, 0, 6, 1, 0, fn_X8_many)], in_X8, lg_X8, [], [], none, (some .int), 0)
set_option maxRecDepth 100000 in
theorem b_X8_bars_0 : (fun (v1 : Int32) (v2 : Int32) (v3 : Int32) (v4 : Int32) (M : Mem) => run C_X8_bars 4 (0, [some (.ref 19), some (.int v1), some (.int v2), some (.int v3), some (.int v4), none], [], M, 0)) = (fun (v1 : Int32) (v2 : Int32) (v3 : Int32) (v4 : Int32) (M : Mem) => some (.inl ((br (decide ((d_X8_isSet v1 M) = 0)) 5 3 (20)), [some (.ref 19), some (.int v1), some (.int v2), some (.int v3), some (.int v4), none], [], M, 0))) := by rfl
set_option maxRecDepth 100000 in
theorem b_X8_bars_1 : (fun (v1 : Int32) (v2 : Int32) (v3 : Int32) (v4 : Int32) (M : Mem) => run C_X8_bars 1 (25, [some (.ref 19), some (.int v1), some (.int v2), some (.int v3), some (.int v4), none], [], M, 0)) = (fun (v1 : Int32) (v2 : Int32) (v3 : Int32) (v4 : Int32) (M : Mem) => some (.inl (26, [some (.ref 19), some (.int v1), some (.int v2), some (.int v3), some (.int v4), none], [.int (0 : Int32)], M, 0))) := by rfl
set_option maxRecDepth 100000 in
theorem b_X8_bars_2 : (fun (v1 : Int32) (v2 : Int32) (v3 : Int32) (v4 : Int32) (M : Mem) => run C_X8_bars 4 (8, [some (.ref 19), some (.int v1), some (.int v2), some (.int v3), some (.int v4), none], [], M, 0)) = (fun (v1 : Int32) (v2 : Int32) (v3 : Int32) (v4 : Int32) (M : Mem) => some (.inl ((br (decide ((d_X8_isSet v2 M) = 0)) 13 3 (12)), [some (.ref 19), some (.int v1), some (.int v2), some (.int v3), some (.int v4), none], [], M, 0))) := by rfl
set_option maxRecDepth 100000 in
theorem b_X8_bars_3 : (fun (v1 : Int32) (v2 : Int32) (v3 : Int32) (v4 : Int32) (M : Mem) => run C_X8_bars 1 (25, [some (.ref 19), some (.int v1), some (.int v2), some (.int v3), some (.int v4), none], [], M, 0)) = (fun (v1 : Int32) (v2 : Int32) (v3 : Int32) (v4 : Int32) (M : Mem) => some (.inl (26, [some (.ref 19), some (.int v1), some (.int v2), some (.int v3), some (.int v4), none], [.int (0 : Int32)], M, 0))) := by rfl
set_option maxRecDepth 100000 in
theorem b_X8_bars_4 : (fun (v1 : Int32) (v2 : Int32) (v3 : Int32) (v4 : Int32) (M : Mem) => run C_X8_bars 2 (16, [some (.ref 19), some (.int v1), some (.int v2), some (.int v3), some (.int v4), none], [], M, 0)) = (fun (v1 : Int32) (v2 : Int32) (v3 : Int32) (v4 : Int32) (M : Mem) => some (.inl ((br (decide (v4 = 0)) 18 3 (7)), [some (.ref 19), some (.int v1), some (.int v2), some (.int v3), some (.int v4), none], [], M, 0))) := by rfl
set_option maxRecDepth 100000 in
theorem b_X8_bars_5 : (fun (v1 : Int32) (v2 : Int32) (v3 : Int32) (v4 : Int32) (M : Mem) => run C_X8_bars 1 (25, [some (.ref 19), some (.int v1), some (.int v2), some (.int v3), some (.int v4), none], [], M, 0)) = (fun (v1 : Int32) (v2 : Int32) (v3 : Int32) (v4 : Int32) (M : Mem) => some (.inl (26, [some (.ref 19), some (.int v1), some (.int v2), some (.int v3), some (.int v4), none], [.int (0 : Int32)], M, 0))) := by rfl
set_option maxRecDepth 100000 in
theorem b_X8_bars_6 : (fun (v1 : Int32) (v2 : Int32) (v3 : Int32) (v4 : Int32) (M : Mem) => run C_X8_bars 2 (21, [some (.ref 19), some (.int v1), some (.int v2), some (.int v3), some (.int v4), none], [], M, 0)) = (fun (v1 : Int32) (v2 : Int32) (v3 : Int32) (v4 : Int32) (M : Mem) => some (.inl (26, [some (.ref 19), some (.int v1), some (.int v2), some (.int v3), some (.int v4), none], [.int (1 : Int32)], M, 0))) := by rfl
theorem m_X8_bars_0 (v1 : Int32) (v2 : Int32) (v3 : Int32) (v4 : Int32) (M : Mem) : Rto C_X8_bars (16, [some (.ref 19), some (.int v1), some (.int v2), some (.int v3), some (.int v4), none], [], M, 0) (26, [some (.ref 19), some (.int v1), some (.int v2), some (.int v3), some (.int v4), none], [.int (if v4 = 0 then (0 : Int32) else (1 : Int32))], M, 0) := by
  refine Rto.trans (Rto.run 2 (congrFun (congrFun (congrFun (congrFun (congrFun b_X8_bars_4 v1) v2) v3) v4) M)) ?_
  by_cases h : v4 = 0
  · refine Rto.trans (Rto.brT (q := 25) h rfl) ?_
    refine Rto.trans (Rto.run 1 (congrFun (congrFun (congrFun (congrFun (congrFun b_X8_bars_5 v1) v2) v3) v4) M)) ?_
    exact Rto.eq (by first | (simp only [if_pos h]; done) | rfl | exact absurd rfl h | (simp; done))
  · refine Rto.trans (Rto.brF (q := 21) h rfl) ?_
    refine Rto.trans (Rto.run 2 (congrFun (congrFun (congrFun (congrFun (congrFun b_X8_bars_6 v1) v2) v3) v4) M)) ?_
    exact Rto.eq (by first | (simp only [if_neg h]; done) | rfl | exact absurd rfl h | (simp; done))
theorem m_X8_bars_1 (v1 : Int32) (v2 : Int32) (v3 : Int32) (v4 : Int32) (M : Mem) : Rto C_X8_bars (8, [some (.ref 19), some (.int v1), some (.int v2), some (.int v3), some (.int v4), none], [], M, 0) (26, [some (.ref 19), some (.int v1), some (.int v2), some (.int v3), some (.int v4), none], [.int (if (d_X8_isSet v2 M) = 0 then (0 : Int32) else (if v4 = 0 then (0 : Int32) else (1 : Int32)))], M, 0) := by
  refine Rto.trans (Rto.run 4 (congrFun (congrFun (congrFun (congrFun (congrFun b_X8_bars_2 v1) v2) v3) v4) M)) ?_
  by_cases h : (d_X8_isSet v2 M) = 0
  · refine Rto.trans (Rto.brT (q := 25) h rfl) ?_
    refine Rto.trans (Rto.run 1 (congrFun (congrFun (congrFun (congrFun (congrFun b_X8_bars_3 v1) v2) v3) v4) M)) ?_
    exact Rto.eq (by first | (simp only [if_pos h]; done) | rfl | exact absurd rfl h | (simp; done))
  · refine Rto.trans (Rto.brF (q := 16) h rfl) ?_
    refine Rto.trans (m_X8_bars_0 v1 v2 v3 v4 M) ?_
    exact Rto.eq (by first | (simp only [if_neg h]; done) | rfl | exact absurd rfl h | (simp; done))
theorem m_X8_bars_2 (v1 : Int32) (v2 : Int32) (v3 : Int32) (v4 : Int32) (M : Mem) : Rto C_X8_bars (0, [some (.ref 19), some (.int v1), some (.int v2), some (.int v3), some (.int v4), none], [], M, 0) (26, [some (.ref 19), some (.int v1), some (.int v2), some (.int v3), some (.int v4), none], [.int (if (d_X8_isSet v1 M) = 0 then (0 : Int32) else (if (d_X8_isSet v2 M) = 0 then (0 : Int32) else (if v4 = 0 then (0 : Int32) else (1 : Int32))))], M, 0) := by
  refine Rto.trans (Rto.run 4 (congrFun (congrFun (congrFun (congrFun (congrFun b_X8_bars_0 v1) v2) v3) v4) M)) ?_
  by_cases h : (d_X8_isSet v1 M) = 0
  · refine Rto.trans (Rto.brT (q := 25) h rfl) ?_
    refine Rto.trans (Rto.run 1 (congrFun (congrFun (congrFun (congrFun (congrFun b_X8_bars_1 v1) v2) v3) v4) M)) ?_
    exact Rto.eq (by first | (simp only [if_pos h]; done) | rfl | exact absurd rfl h | (simp; done))
  · refine Rto.trans (Rto.brF (q := 8) h rfl) ?_
    refine Rto.trans (m_X8_bars_1 v1 v2 v3 v4 M) ?_
    exact Rto.eq (by first | (simp only [if_neg h]; done) | rfl | exact absurd rfl h | (simp; done))
set_option maxRecDepth 100000 in
theorem b_X8_bars_7 : (fun (v1 : Int32) (v2 : Int32) (v3 : Int32) (v4 : Int32) (M : Mem) => run C_X8_bars 3 (26, [some (.ref 19), some (.int v1), some (.int v2), some (.int v3), some (.int v4), none], [.int (if (d_X8_isSet v1 M) = 0 then (0 : Int32) else (if (d_X8_isSet v2 M) = 0 then (0 : Int32) else (if v4 = 0 then (0 : Int32) else (1 : Int32))))], M, 0)) = (fun (v1 : Int32) (v2 : Int32) (v3 : Int32) (v4 : Int32) (M : Mem) => some (.inl ((br (!decide ((if (d_X8_isSet v1 M) = 0 then (0 : Int32) else (if (d_X8_isSet v2 M) = 0 then (0 : Int32) else (if v4 = 0 then (0 : Int32) else (1 : Int32)))) = 0)) 30 3 (7)), [some (.ref 19), some (.int v1), some (.int v2), some (.int v3), some (.int v4), some (.int (if (d_X8_isSet v1 M) = 0 then (0 : Int32) else (if (d_X8_isSet v2 M) = 0 then (0 : Int32) else (if v4 = 0 then (0 : Int32) else (1 : Int32)))))], [], M, 0))) := by rfl
set_option maxRecDepth 100000 in
theorem b_X8_bars_8 : (fun (v1 : Int32) (v2 : Int32) (v3 : Int32) (v4 : Int32) (M : Mem) => run C_X8_bars 3 (33, [some (.ref 19), some (.int v1), some (.int v2), some (.int v3), some (.int v4), some (.int (if (d_X8_isSet v1 M) = 0 then (0 : Int32) else (if (d_X8_isSet v2 M) = 0 then (0 : Int32) else (if v4 = 0 then (0 : Int32) else (1 : Int32)))))], [], M, 0)) = (fun (v1 : Int32) (v2 : Int32) (v3 : Int32) (v4 : Int32) (M : Mem) => some (.inr (.inl (some (.int (1 : Int32))), M, 0))) := by rfl
set_option maxRecDepth 100000 in
theorem b_X8_bars_9 : (fun (v1 : Int32) (v2 : Int32) (v3 : Int32) (v4 : Int32) (M : Mem) => run C_X8_bars 5 (37, [some (.ref 19), some (.int v1), some (.int v2), some (.int v3), some (.int v4), some (.int (if (d_X8_isSet v1 M) = 0 then (0 : Int32) else (if (d_X8_isSet v2 M) = 0 then (0 : Int32) else (if v4 = 0 then (0 : Int32) else (1 : Int32)))))], [], M, 0)) = (fun (v1 : Int32) (v2 : Int32) (v3 : Int32) (v4 : Int32) (M : Mem) => some (.inl ((br (!decide ((d_X8_isIn v3 (2 : Int32) (3 : Int32)) = 0)) 43 3 (7)), [some (.ref 19), some (.int v1), some (.int v2), some (.int v3), some (.int v4), some (.int (if (d_X8_isSet v1 M) = 0 then (0 : Int32) else (if (d_X8_isSet v2 M) = 0 then (0 : Int32) else (if v4 = 0 then (0 : Int32) else (1 : Int32)))))], [], M, 0))) := by rfl
set_option maxRecDepth 100000 in
theorem b_X8_bars_10 : (fun (v1 : Int32) (v2 : Int32) (v3 : Int32) (v4 : Int32) (M : Mem) => run C_X8_bars 3 (46, [some (.ref 19), some (.int v1), some (.int v2), some (.int v3), some (.int v4), some (.int (if (d_X8_isSet v1 M) = 0 then (0 : Int32) else (if (d_X8_isSet v2 M) = 0 then (0 : Int32) else (if v4 = 0 then (0 : Int32) else (1 : Int32)))))], [], M, 0)) = (fun (v1 : Int32) (v2 : Int32) (v3 : Int32) (v4 : Int32) (M : Mem) => some (.inr (.inl (some (.int (2 : Int32))), M, 0))) := by rfl
set_option maxRecDepth 100000 in
theorem b_X8_bars_11 : (fun (v1 : Int32) (v2 : Int32) (v3 : Int32) (v4 : Int32) (M : Mem) => run C_X8_bars 3 (50, [some (.ref 19), some (.int v1), some (.int v2), some (.int v3), some (.int v4), some (.int (if (d_X8_isSet v1 M) = 0 then (0 : Int32) else (if (d_X8_isSet v2 M) = 0 then (0 : Int32) else (if v4 = 0 then (0 : Int32) else (1 : Int32)))))], [], M, 0)) = (fun (v1 : Int32) (v2 : Int32) (v3 : Int32) (v4 : Int32) (M : Mem) => some (.inl (55, [some (.ref 19), some (.int v1), some (.int v2), some (.int v3), some (.int v4), some (.int (if (d_X8_isSet v1 M) = 0 then (0 : Int32) else (if (d_X8_isSet v2 M) = 0 then (0 : Int32) else (if v4 = 0 then (0 : Int32) else (1 : Int32)))))], [.int v1, .ref 20], M, 0))) := by rfl
set_option maxRecDepth 100000 in
theorem b_X8_bars_12 : (fun (v1 : Int32) (v2 : Int32) (v3 : Int32) (v4 : Int32) (M : Mem) => stp C_X8_bars (55, [some (.ref 19), some (.int v1), some (.int v2), some (.int v3), some (.int v4), some (.int (if (d_X8_isSet v1 M) = 0 then (0 : Int32) else (if (d_X8_isSet v2 M) = 0 then (0 : Int32) else (if v4 = 0 then (0 : Int32) else (1 : Int32)))))], [.int v1, .ref 20], M, 0)) = (fun (v1 : Int32) (v2 : Int32) (v3 : Int32) (v4 : Int32) (M : Mem) => (if inb v1 30 = true then some (.inl (56, [some (.ref 19), some (.int v1), some (.int v2), some (.int v3), some (.int v4), some (.int (if (d_X8_isSet v1 M) = 0 then (0 : Int32) else (if (d_X8_isSet v2 M) = 0 then (0 : Int32) else (if v4 = 0 then (0 : Int32) else (1 : Int32)))))], [.long (M.2 20 (ix v1))], M, 0)) else none)) := by rfl
set_option maxRecDepth 100000 in
theorem b_X8_bars_13 : (fun (v1 : Int32) (v2 : Int32) (v3 : Int32) (v4 : Int32) (M : Mem) (w1 : Int32) => run C_X8_bars 2 (59, [some (.ref 19), some (.int v1), some (.int v2), some (.int v3), some (.int v4), some (.int (if (d_X8_isSet v1 M) = 0 then (0 : Int32) else (if (d_X8_isSet v2 M) = 0 then (0 : Int32) else (if v4 = 0 then (0 : Int32) else (1 : Int32)))))], [.int w1], M, 0)) = (fun (v1 : Int32) (v2 : Int32) (v3 : Int32) (v4 : Int32) (M : Mem) (w1 : Int32) => some (.inl ((br (!decide (w1 ≤ (6 : Int32))) 61 3 (17)), [some (.ref 19), some (.int v1), some (.int v2), some (.int v3), some (.int v4), some (.int (if (d_X8_isSet v1 M) = 0 then (0 : Int32) else (if (d_X8_isSet v2 M) = 0 then (0 : Int32) else (if v4 = 0 then (0 : Int32) else (1 : Int32)))))], [], M, 0))) := by rfl
set_option maxRecDepth 100000 in
theorem b_X8_bars_14 : (fun (v1 : Int32) (v2 : Int32) (v3 : Int32) (v4 : Int32) (M : Mem) => run C_X8_bars 3 (64, [some (.ref 19), some (.int v1), some (.int v2), some (.int v3), some (.int v4), some (.int (if (d_X8_isSet v1 M) = 0 then (0 : Int32) else (if (d_X8_isSet v2 M) = 0 then (0 : Int32) else (if v4 = 0 then (0 : Int32) else (1 : Int32)))))], [], M, 0)) = (fun (v1 : Int32) (v2 : Int32) (v3 : Int32) (v4 : Int32) (M : Mem) => some (.inl (69, [some (.ref 19), some (.int v1), some (.int v2), some (.int v3), some (.int v4), some (.int (if (d_X8_isSet v1 M) = 0 then (0 : Int32) else (if (d_X8_isSet v2 M) = 0 then (0 : Int32) else (if v4 = 0 then (0 : Int32) else (1 : Int32)))))], [.int v2, .ref 20], M, 0))) := by rfl
set_option maxRecDepth 100000 in
theorem b_X8_bars_15 : (fun (v1 : Int32) (v2 : Int32) (v3 : Int32) (v4 : Int32) (M : Mem) => stp C_X8_bars (69, [some (.ref 19), some (.int v1), some (.int v2), some (.int v3), some (.int v4), some (.int (if (d_X8_isSet v1 M) = 0 then (0 : Int32) else (if (d_X8_isSet v2 M) = 0 then (0 : Int32) else (if v4 = 0 then (0 : Int32) else (1 : Int32)))))], [.int v2, .ref 20], M, 0)) = (fun (v1 : Int32) (v2 : Int32) (v3 : Int32) (v4 : Int32) (M : Mem) => (if inb v2 30 = true then some (.inl (70, [some (.ref 19), some (.int v1), some (.int v2), some (.int v3), some (.int v4), some (.int (if (d_X8_isSet v1 M) = 0 then (0 : Int32) else (if (d_X8_isSet v2 M) = 0 then (0 : Int32) else (if v4 = 0 then (0 : Int32) else (1 : Int32)))))], [.long (M.2 20 (ix v2))], M, 0)) else none)) := by rfl
set_option maxRecDepth 100000 in
theorem b_X8_bars_16 : (fun (v1 : Int32) (v2 : Int32) (v3 : Int32) (v4 : Int32) (M : Mem) (w2 : Int32) => run C_X8_bars 2 (73, [some (.ref 19), some (.int v1), some (.int v2), some (.int v3), some (.int v4), some (.int (if (d_X8_isSet v1 M) = 0 then (0 : Int32) else (if (d_X8_isSet v2 M) = 0 then (0 : Int32) else (if v4 = 0 then (0 : Int32) else (1 : Int32)))))], [.int w2], M, 0)) = (fun (v1 : Int32) (v2 : Int32) (v3 : Int32) (v4 : Int32) (M : Mem) (w2 : Int32) => some (.inl ((br (decide (w2 ≤ (6 : Int32))) 75 3 (7)), [some (.ref 19), some (.int v1), some (.int v2), some (.int v3), some (.int v4), some (.int (if (d_X8_isSet v1 M) = 0 then (0 : Int32) else (if (d_X8_isSet v2 M) = 0 then (0 : Int32) else (if v4 = 0 then (0 : Int32) else (1 : Int32)))))], [], M, 0))) := by rfl
set_option maxRecDepth 100000 in
theorem b_X8_bars_17 : (fun (v1 : Int32) (v2 : Int32) (v3 : Int32) (v4 : Int32) (M : Mem) => run C_X8_bars 2 (82, [some (.ref 19), some (.int v1), some (.int v2), some (.int v3), some (.int v4), some (.int (if (d_X8_isSet v1 M) = 0 then (0 : Int32) else (if (d_X8_isSet v2 M) = 0 then (0 : Int32) else (if v4 = 0 then (0 : Int32) else (1 : Int32)))))], [], M, 0)) = (fun (v1 : Int32) (v2 : Int32) (v3 : Int32) (v4 : Int32) (M : Mem) => some (.inr (.inl (some (.int (0 : Int32))), M, 0))) := by rfl
set_option maxRecDepth 100000 in
theorem b_X8_bars_18 : (fun (v1 : Int32) (v2 : Int32) (v3 : Int32) (v4 : Int32) (M : Mem) => run C_X8_bars 3 (78, [some (.ref 19), some (.int v1), some (.int v2), some (.int v3), some (.int v4), some (.int (if (d_X8_isSet v1 M) = 0 then (0 : Int32) else (if (d_X8_isSet v2 M) = 0 then (0 : Int32) else (if v4 = 0 then (0 : Int32) else (1 : Int32)))))], [], M, 0)) = (fun (v1 : Int32) (v2 : Int32) (v3 : Int32) (v4 : Int32) (M : Mem) => some (.inr (.inl (some (.int (3 : Int32))), M, 0))) := by rfl
set_option maxRecDepth 100000 in
theorem b_X8_bars_19 : (fun (v1 : Int32) (v2 : Int32) (v3 : Int32) (v4 : Int32) (M : Mem) => run C_X8_bars 3 (78, [some (.ref 19), some (.int v1), some (.int v2), some (.int v3), some (.int v4), some (.int (if (d_X8_isSet v1 M) = 0 then (0 : Int32) else (if (d_X8_isSet v2 M) = 0 then (0 : Int32) else (if v4 = 0 then (0 : Int32) else (1 : Int32)))))], [], M, 0)) = (fun (v1 : Int32) (v2 : Int32) (v3 : Int32) (v4 : Int32) (M : Mem) => some (.inr (.inl (some (.int (3 : Int32))), M, 0))) := by rfl
def d_X8_bars (v1 : Int32) (v2 : Int32) (v3 : Int32) (v4 : Int32) (M : Mem) : Option Int32 := (if (if (d_X8_isSet v1 M) = 0 then (0 : Int32) else (if (d_X8_isSet v2 M) = 0 then (0 : Int32) else (if v4 = 0 then (0 : Int32) else (1 : Int32)))) = 0 then some (1 : Int32) else (if (d_X8_isIn v3 (2 : Int32) (3 : Int32)) = 0 then some (2 : Int32) else (if inb v1 30 = true then ((d_X8_many (M.2 20 (ix v1))).bind fun w1 => (if w1 ≤ (6 : Int32) then (if inb v2 30 = true then ((d_X8_many (M.2 20 (ix v2))).bind fun w2 => (if w2 ≤ (6 : Int32) then some (0 : Int32) else some (3 : Int32))) else none) else some (3 : Int32))) else none)))
set_option maxHeartbeats 2000000 in
theorem r_X8_bars (v1 : Int32) (v2 : Int32) (v3 : Int32) (v4 : Int32) (M : Mem) : RG C_X8_bars (0, [some (.ref 19), some (.int v1), some (.int v2), some (.int v3), some (.int v4), none], [], M, 0) (d_X8_bars v1 v2 v3 v4 M) (fun v => .inr (.inl (some (.int v)), M)) := by
  unfold d_X8_bars
  refine RG.step (m_X8_bars_2 v1 v2 v3 v4 M) ?_
  refine RG.st 3 (congrFun (congrFun (congrFun (congrFun (congrFun b_X8_bars_7 v1) v2) v3) v4) M) ?_
  refine RG.ite (fun h1 => RG.brNF (q := 33) h1 rfl ?_) (fun h1 => RG.brNT (q := 37) h1 rfl ?_)
  · exact RG.fin rfl (Rend.run 3 (congrFun (congrFun (congrFun (congrFun (congrFun b_X8_bars_8 v1) v2) v3) v4) M))
  · refine RG.st 5 (congrFun (congrFun (congrFun (congrFun (congrFun b_X8_bars_9 v1) v2) v3) v4) M) ?_
    refine RG.ite (fun h2 => RG.brNF (q := 46) h2 rfl ?_) (fun h2 => RG.brNT (q := 50) h2 rfl ?_)
    · exact RG.fin rfl (Rend.run 3 (congrFun (congrFun (congrFun (congrFun (congrFun b_X8_bars_10 v1) v2) v3) v4) M))
    · refine RG.st 3 (congrFun (congrFun (congrFun (congrFun (congrFun b_X8_bars_11 v1) v2) v3) v4) M) ?_
      refine RG.guard (fun h3 => RG.st 1 (stp_g h3 (congrFun (congrFun (congrFun (congrFun (congrFun b_X8_bars_12 v1) v2) v3) v4) M)) ?_)
      refine RG.bind (fun w1 h4 => RG.st 1 (run_callS (v := some (.int w1)) rfl rfl rfl rfl (show fn_X8_many [.long (M.2 20 (ix v1))] M = some (.inl (some (.int w1)), M) from by unfold fn_X8_many; exact bindI h4)) ?_)
      show RG C_X8_bars (59, [some (.ref 19), some (.int v1), some (.int v2), some (.int v3), some (.int v4), some (.int (if (d_X8_isSet v1 M) = 0 then (0 : Int32) else (if (d_X8_isSet v2 M) = 0 then (0 : Int32) else (if v4 = 0 then (0 : Int32) else (1 : Int32)))))], [.int w1], M, 0) _ _
      refine RG.st 2 (congrFun (congrFun (congrFun (congrFun (congrFun (congrFun b_X8_bars_13 v1) v2) v3) v4) M) w1) ?_
      refine RG.ite (fun h5 => RG.brNF (q := 64) h5 rfl ?_) (fun h5 => RG.brNT (q := 78) h5 rfl ?_)
      · refine RG.st 3 (congrFun (congrFun (congrFun (congrFun (congrFun b_X8_bars_14 v1) v2) v3) v4) M) ?_
        refine RG.guard (fun h6 => RG.st 1 (stp_g h6 (congrFun (congrFun (congrFun (congrFun (congrFun b_X8_bars_15 v1) v2) v3) v4) M)) ?_)
        refine RG.bind (fun w2 h7 => RG.st 1 (run_callS (v := some (.int w2)) rfl rfl rfl rfl (show fn_X8_many [.long (M.2 20 (ix v2))] M = some (.inl (some (.int w2)), M) from by unfold fn_X8_many; exact bindI h7)) ?_)
        show RG C_X8_bars (73, [some (.ref 19), some (.int v1), some (.int v2), some (.int v3), some (.int v4), some (.int (if (d_X8_isSet v1 M) = 0 then (0 : Int32) else (if (d_X8_isSet v2 M) = 0 then (0 : Int32) else (if v4 = 0 then (0 : Int32) else (1 : Int32)))))], [.int w2], M, 0) _ _
        refine RG.st 2 (congrFun (congrFun (congrFun (congrFun (congrFun (congrFun b_X8_bars_16 v1) v2) v3) v4) M) w2) ?_
        refine RG.ite (fun h8 => RG.brT (q := 82) h8 rfl ?_) (fun h8 => RG.brF (q := 78) h8 rfl ?_)
        · exact RG.fin rfl (Rend.run 2 (congrFun (congrFun (congrFun (congrFun (congrFun b_X8_bars_17 v1) v2) v3) v4) M))
        · exact RG.fin rfl (Rend.run 3 (congrFun (congrFun (congrFun (congrFun (congrFun b_X8_bars_18 v1) v2) v3) v4) M))
      · exact RG.fin rfl (Rend.run 3 (congrFun (congrFun (congrFun (congrFun (congrFun b_X8_bars_19 v1) v2) v3) v4) M))
def fn_X8_bars : Fn := fun av M => match av with
  | [.ref r0, .int v1, .int v2, .int v3, .int v4] => bif Nat.beq r0 19 then (d_X8_bars v1 v2 v3 v4 M).bind fun v => some (.inl (some (.int v)), M) else (none)
  | _ => none
theorem cfg_X8_bars : CfgOK RX8 cX8_bars (C_X8_bars) 3 := ⟨tk_X8_bars, csF_nd, flk_X8, (List.forall_mem_cons.mpr ⟨Or.inr ⟨yX8_isIn, cX8_isIn, 3, (some .boolean), none, 1, ok_X8_isIn, by decide, by decide, w_code_SumsetryModel_isIn__III_Z, w_initialized_SumsetryModel, ⟨by decide, by decide⟩, Or.inl ⟨rfl, show (parseMethodDescriptor yX8_isIn.desc).map (fun d => d.parameters.length) = some 3 from by decide +kernel, w_methodLink_SumsetryModel_53, w_static_SumsetryModel_isIn__III_Z⟩⟩,
    List.forall_mem_cons.mpr ⟨Or.inr ⟨yX8_isSet, cX8_isSet, 2, (some .boolean), none, 2, ok_X8_isSet, by decide, by decide, w_code_SumsetryModel_isSet__I_Z, w_initialized_SumsetryModel, ⟨by decide, by decide⟩, Or.inr (Or.inr ⟨rfl, rfl, show (parseMethodDescriptor yX8_isSet.desc).map (fun d => d.parameters.length + 1) = some 2 from by decide +kernel, w_methodLink_SumsetryModel_96, w_instanceMethod_SumsetryModel_isSet__I_Z, w_selects_SumsetryModel_isSet__I_Z, ⟨_, rfl, rfl⟩⟩)⟩,
    List.forall_mem_cons.mpr ⟨Or.inr ⟨yX8_many, cX8_many, 4, (some .int), none, 2, ok_X8_many, by decide, by decide, w_code_SumsetryModel_many__J_I, w_initialized_SumsetryModel, ⟨by decide, by decide⟩, Or.inl ⟨rfl, show (parseMethodDescriptor yX8_many.desc).map (fun d => d.parameters.length) = some 1 from by decide +kernel, w_methodLink_SumsetryModel_115, w_static_SumsetryModel_many__J_I⟩⟩, fun _ h => absurd h List.not_mem_nil⟩⟩⟩), ink_X8, lgk_X8, fun e h => absurd h List.not_mem_nil, (fun h hh => absurd hh List.not_mem_nil)⟩
theorem ok_X8_bars : OkM csF yX8_bars (Cond.code yX8_bars cX8_bars 6 (some .int)) 3 0 fn_X8_bars :=
  OkM_of (own := RX8) (C := C_X8_bars) (by decide +kernel) rfl (cfg_X8_bars) rfl rfl rfl rfl (by
    intro av M o M' h
    unfold fn_X8_bars at h
    split at h
    · rename_i r0 v1 v2 v3 v4
      rcases bif_cs h with ⟨hb, h⟩ | ⟨-, h⟩
      · skip
        have hr0 := hb
        obtain rfl := Nat.eq_of_beq_eq_true hr0
        obtain ⟨w, hw, h⟩ := bind_cs h
        cases h
        exact ⟨rfl, Nat.le_of_ble_eq_true rfl, (r_X8_bars v1 v2 v3 v4 M) w hw⟩
      · cases h
    · cases h)
def t_X8_image : List (Nat × Instr × Nat) := [(0, .aload_n 0, 1), (1, .aload_n 0, 1), (2, .iload_n 1, 1), (3, .iload_n 2, 1), (4, .iload_n 3, 1), (5, .aload_n 0, 1), (6, .iload 4, 2), (8, .invokevirtual 78, 3), (11, .invokevirtual 142, 3), (14, .putfield 46, 3), (17, .aload_n 0, 1), (18, .getfield 46, 3), (21, .ifCond .le 5, 3), (24, .iconst 0, 1), (25, .ireturn, 1), (26, .aload_n 0, 1), (27, .getfield 16, 3), (30, .iload_n 1, 1), (31, .laload, 1), (32, .iload 4, 2), (34, .invokestatic 60, 3), (37, .ifCond .eq 23, 3), (40, .aload_n 0, 1), (41, .aload_n 0, 1), (42, .getfield 16, 3), (45, .iload_n 1, 1), (46, .laload, 1), (47, .aload_n 0, 1), (48, .getfield 16, 3), (51, .iload_n 2, 1), (52, .laload, 1), (53, .iload_n 3, 1), (54, .invokevirtual 146, 3), (57, .ifCond .ne 5, 3), (60, .iconst (-1), 1), (61, .ireturn, 1), (62, .iconst 0, 1), (63, .istore 5, 2), (65, .iconst 0, 1), (66, .istore 6, 2), (68, .iload 6, 2), (70, .iload 4, 2), (72, .if_icmp .ge 33, 3), (75, .iload 5, 2), (77, .aload_n 0, 1), (78, .getfield 16, 3), (81, .iload_n 1, 1), (82, .laload, 1), (83, .iload 6, 2), (85, .invokestatic 60, 3), (88, .ifCond .eq 7, 3), (91, .iconst 1, 1), (92, .goto 4, 3), (95, .iconst 0, 1), (96, .iadd, 1), (97, .istore 5, 2), (99, .iinc 6 1, 3), (102, .goto (-34), 3), (105, .aload_n 0, 1), (106, .getfield 27, 3), (109, .aload_n 0, 1), (110, .getfield 33, 3), (113, .iload 5, 2), (115, .iaload, 1), (116, .iaload, 1), (117, .ireturn, 1)]
theorem tk_X8_image : ∀ x ∈ t_X8_image, decode cX8_image x.1 = .ok x.2 := by decide +kernel
def C_X8_image : Cfg := (t_X8_image, csF, fl_X8, [(60, 0, 6, 2, 0, fn_X8_has), (78, 2, 6, 2, 0, fn_X8_isElement), (142, 2, 6, 5, 0, fn_X8_bars), (146, 2, 6, 4, 0, fn_X8_mapsOf)], in_X8, lg_X8, [], [], none, (some .int), 0)
set_option maxRecDepth 100000 in
theorem b_X8_image_0 : (fun (v1 : Int32) (v2 : Int32) (v3 : Int32) (v4 : Int32) (M : Mem) => run C_X8_image 8 (0, [some (.ref 19), some (.int v1), some (.int v2), some (.int v3), some (.int v4), none, none], [], M, 0)) = (fun (v1 : Int32) (v2 : Int32) (v3 : Int32) (v4 : Int32) (M : Mem) => some (.inl (11, [some (.ref 19), some (.int v1), some (.int v2), some (.int v3), some (.int v4), none, none], [.int (d_X8_isElement v4 M), .int v3, .int v2, .int v1, .ref 19, .ref 19], M, 0))) := by rfl
set_option maxRecDepth 100000 in
theorem b_X8_image_1 : (fun (v1 : Int32) (v2 : Int32) (v3 : Int32) (v4 : Int32) (M : Mem) (w1 : Int32) => run C_X8_image 4 (14, [some (.ref 19), some (.int v1), some (.int v2), some (.int v3), some (.int v4), none, none], [.int w1, .ref 19], M, 0)) = (fun (v1 : Int32) (v2 : Int32) (v3 : Int32) (v4 : Int32) (M : Mem) (w1 : Int32) => some (.inl ((br (decide (w1 ≤ 0)) 21 3 (5)), [some (.ref 19), some (.int v1), some (.int v2), some (.int v3), some (.int v4), none, none], [], (sI M 19 15 w1), 0))) := by rfl
set_option maxRecDepth 100000 in
theorem b_X8_image_2 : (fun (v1 : Int32) (v2 : Int32) (v3 : Int32) (v4 : Int32) (M : Mem) (w1 : Int32) => run C_X8_image 3 (26, [some (.ref 19), some (.int v1), some (.int v2), some (.int v3), some (.int v4), none, none], [], (sI M 19 15 w1), 0)) = (fun (v1 : Int32) (v2 : Int32) (v3 : Int32) (v4 : Int32) (M : Mem) (w1 : Int32) => some (.inl (31, [some (.ref 19), some (.int v1), some (.int v2), some (.int v3), some (.int v4), none, none], [.int v1, .ref 20], (sI M 19 15 w1), 0))) := by rfl
set_option maxRecDepth 100000 in
theorem b_X8_image_3 : (fun (v1 : Int32) (v2 : Int32) (v3 : Int32) (v4 : Int32) (M : Mem) (w1 : Int32) => stp C_X8_image (31, [some (.ref 19), some (.int v1), some (.int v2), some (.int v3), some (.int v4), none, none], [.int v1, .ref 20], (sI M 19 15 w1), 0)) = (fun (v1 : Int32) (v2 : Int32) (v3 : Int32) (v4 : Int32) (M : Mem) (w1 : Int32) => (if inb v1 30 = true then some (.inl (32, [some (.ref 19), some (.int v1), some (.int v2), some (.int v3), some (.int v4), none, none], [.long (M.2 20 (ix v1))], (sI M 19 15 w1), 0)) else none)) := by rfl
set_option maxRecDepth 100000 in
theorem b_X8_image_4 : (fun (v1 : Int32) (v2 : Int32) (v3 : Int32) (v4 : Int32) (M : Mem) (w1 : Int32) => run C_X8_image 3 (32, [some (.ref 19), some (.int v1), some (.int v2), some (.int v3), some (.int v4), none, none], [.long (M.2 20 (ix v1))], (sI M 19 15 w1), 0)) = (fun (v1 : Int32) (v2 : Int32) (v3 : Int32) (v4 : Int32) (M : Mem) (w1 : Int32) => some (.inl ((br (decide ((d_X8_has (M.2 20 (ix v1)) v4) = 0)) 37 3 (23)), [some (.ref 19), some (.int v1), some (.int v2), some (.int v3), some (.int v4), none, none], [], (sI M 19 15 w1), 0))) := by rfl
set_option maxRecDepth 100000 in
theorem b_X8_image_5 : (fun (v1 : Int32) (v2 : Int32) (v3 : Int32) (v4 : Int32) (M : Mem) (w1 : Int32) => run C_X8_image 2 (60, [some (.ref 19), some (.int v1), some (.int v2), some (.int v3), some (.int v4), none, none], [], (sI M 19 15 w1), 0)) = (fun (v1 : Int32) (v2 : Int32) (v3 : Int32) (v4 : Int32) (M : Mem) (w1 : Int32) => some (.inr (.inl (some (.int (-1 : Int32))), (sI M 19 15 w1), 0))) := by rfl
set_option maxRecDepth 100000 in
theorem b_X8_image_6 : (fun (v1 : Int32) (v2 : Int32) (v3 : Int32) (v4 : Int32) (M : Mem) (w1 : Int32) => run C_X8_image 4 (40, [some (.ref 19), some (.int v1), some (.int v2), some (.int v3), some (.int v4), none, none], [], (sI M 19 15 w1), 0)) = (fun (v1 : Int32) (v2 : Int32) (v3 : Int32) (v4 : Int32) (M : Mem) (w1 : Int32) => some (.inl (46, [some (.ref 19), some (.int v1), some (.int v2), some (.int v3), some (.int v4), none, none], [.int v1, .ref 20, .ref 19], (sI M 19 15 w1), 0))) := by rfl
set_option maxRecDepth 100000 in
theorem b_X8_image_7 : (fun (v1 : Int32) (v2 : Int32) (v3 : Int32) (v4 : Int32) (M : Mem) (w1 : Int32) => stp C_X8_image (46, [some (.ref 19), some (.int v1), some (.int v2), some (.int v3), some (.int v4), none, none], [.int v1, .ref 20, .ref 19], (sI M 19 15 w1), 0)) = (fun (v1 : Int32) (v2 : Int32) (v3 : Int32) (v4 : Int32) (M : Mem) (w1 : Int32) => (if inb v1 30 = true then some (.inl (47, [some (.ref 19), some (.int v1), some (.int v2), some (.int v3), some (.int v4), none, none], [.long (M.2 20 (ix v1)), .ref 19], (sI M 19 15 w1), 0)) else none)) := by rfl
set_option maxRecDepth 100000 in
theorem b_X8_image_8 : (fun (v1 : Int32) (v2 : Int32) (v3 : Int32) (v4 : Int32) (M : Mem) (w1 : Int32) => run C_X8_image 3 (47, [some (.ref 19), some (.int v1), some (.int v2), some (.int v3), some (.int v4), none, none], [.long (M.2 20 (ix v1)), .ref 19], (sI M 19 15 w1), 0)) = (fun (v1 : Int32) (v2 : Int32) (v3 : Int32) (v4 : Int32) (M : Mem) (w1 : Int32) => some (.inl (52, [some (.ref 19), some (.int v1), some (.int v2), some (.int v3), some (.int v4), none, none], [.int v2, .ref 20, .long (M.2 20 (ix v1)), .ref 19], (sI M 19 15 w1), 0))) := by rfl
set_option maxRecDepth 100000 in
theorem b_X8_image_9 : (fun (v1 : Int32) (v2 : Int32) (v3 : Int32) (v4 : Int32) (M : Mem) (w1 : Int32) => stp C_X8_image (52, [some (.ref 19), some (.int v1), some (.int v2), some (.int v3), some (.int v4), none, none], [.int v2, .ref 20, .long (M.2 20 (ix v1)), .ref 19], (sI M 19 15 w1), 0)) = (fun (v1 : Int32) (v2 : Int32) (v3 : Int32) (v4 : Int32) (M : Mem) (w1 : Int32) => (if inb v2 30 = true then some (.inl (53, [some (.ref 19), some (.int v1), some (.int v2), some (.int v3), some (.int v4), none, none], [.long (M.2 20 (ix v2)), .long (M.2 20 (ix v1)), .ref 19], (sI M 19 15 w1), 0)) else none)) := by rfl
set_option maxRecDepth 100000 in
theorem b_X8_image_10 : (fun (v1 : Int32) (v2 : Int32) (v3 : Int32) (v4 : Int32) (M : Mem) (w1 : Int32) => run C_X8_image 1 (53, [some (.ref 19), some (.int v1), some (.int v2), some (.int v3), some (.int v4), none, none], [.long (M.2 20 (ix v2)), .long (M.2 20 (ix v1)), .ref 19], (sI M 19 15 w1), 0)) = (fun (v1 : Int32) (v2 : Int32) (v3 : Int32) (v4 : Int32) (M : Mem) (w1 : Int32) => some (.inl (54, [some (.ref 19), some (.int v1), some (.int v2), some (.int v3), some (.int v4), none, none], [.int v3, .long (M.2 20 (ix v2)), .long (M.2 20 (ix v1)), .ref 19], (sI M 19 15 w1), 0))) := by rfl
set_option maxRecDepth 100000 in
theorem b_X8_image_11 : (fun (v1 : Int32) (v2 : Int32) (v3 : Int32) (v4 : Int32) (w3 : Int32) (M2 : Mem) => run C_X8_image 1 (57, [some (.ref 19), some (.int v1), some (.int v2), some (.int v3), some (.int v4), none, none], [.int w3], M2, 0)) = (fun (v1 : Int32) (v2 : Int32) (v3 : Int32) (v4 : Int32) (w3 : Int32) (M2 : Mem) => some (.inl ((br (!decide (w3 = 0)) 57 3 (5)), [some (.ref 19), some (.int v1), some (.int v2), some (.int v3), some (.int v4), none, none], [], M2, 0))) := by rfl
set_option maxRecDepth 100000 in
theorem b_X8_image_12 : (fun (v1 : Int32) (v2 : Int32) (v3 : Int32) (v4 : Int32) (M2 : Mem) => run C_X8_image 2 (60, [some (.ref 19), some (.int v1), some (.int v2), some (.int v3), some (.int v4), none, none], [], M2, 0)) = (fun (v1 : Int32) (v2 : Int32) (v3 : Int32) (v4 : Int32) (M2 : Mem) => some (.inr (.inl (some (.int (-1 : Int32))), M2, 0))) := by rfl
set_option maxRecDepth 100000 in
theorem b_X8_image_13 : (fun (v1 : Int32) (v2 : Int32) (v3 : Int32) (v4 : Int32) (M2 : Mem) => run C_X8_image 4 (62, [some (.ref 19), some (.int v1), some (.int v2), some (.int v3), some (.int v4), none, none], [], M2, 0)) = (fun (v1 : Int32) (v2 : Int32) (v3 : Int32) (v4 : Int32) (M2 : Mem) => some (.inl (68, [some (.ref 19), some (.int v1), some (.int v2), some (.int v3), some (.int v4), some (.int (0 : Int32)), some (.int (0 : Int32))], [], M2, 0))) := by rfl
set_option maxRecDepth 100000 in
theorem b_X8_image_14 : (fun (v1 : Int32) (v2 : Int32) (v3 : Int32) (v4 : Int32) (M2 : Mem) (a1 : (Int32 × Int32)) => run C_X8_image 3 (68, [some (.ref 19), some (.int v1), some (.int v2), some (.int v3), some (.int v4), some (.int a1.1), some (.int a1.2)], [], M2, 0)) = (fun (v1 : Int32) (v2 : Int32) (v3 : Int32) (v4 : Int32) (M2 : Mem) (a1 : (Int32 × Int32)) => some (.inl ((br (!decide (a1.2 < v4)) 72 3 (33)), [some (.ref 19), some (.int v1), some (.int v2), some (.int v3), some (.int v4), some (.int a1.1), some (.int a1.2)], [], M2, 0))) := by rfl
set_option maxRecDepth 100000 in
theorem b_X8_image_15 : (fun (v1 : Int32) (v2 : Int32) (v3 : Int32) (v4 : Int32) (M2 : Mem) (a1 : (Int32 × Int32)) => run C_X8_image 4 (75, [some (.ref 19), some (.int v1), some (.int v2), some (.int v3), some (.int v4), some (.int a1.1), some (.int a1.2)], [], M2, 0)) = (fun (v1 : Int32) (v2 : Int32) (v3 : Int32) (v4 : Int32) (M2 : Mem) (a1 : (Int32 × Int32)) => some (.inl (82, [some (.ref 19), some (.int v1), some (.int v2), some (.int v3), some (.int v4), some (.int a1.1), some (.int a1.2)], [.int v1, .ref 20, .int a1.1], M2, 0))) := by rfl
set_option maxRecDepth 100000 in
theorem b_X8_image_16 : (fun (v1 : Int32) (v2 : Int32) (v3 : Int32) (v4 : Int32) (M2 : Mem) (a1 : (Int32 × Int32)) => stp C_X8_image (82, [some (.ref 19), some (.int v1), some (.int v2), some (.int v3), some (.int v4), some (.int a1.1), some (.int a1.2)], [.int v1, .ref 20, .int a1.1], M2, 0)) = (fun (v1 : Int32) (v2 : Int32) (v3 : Int32) (v4 : Int32) (M2 : Mem) (a1 : (Int32 × Int32)) => (if inb v1 30 = true then some (.inl (83, [some (.ref 19), some (.int v1), some (.int v2), some (.int v3), some (.int v4), some (.int a1.1), some (.int a1.2)], [.long (M2.2 20 (ix v1)), .int a1.1], M2, 0)) else none)) := by rfl
set_option maxRecDepth 100000 in
theorem b_X8_image_17 : (fun (v1 : Int32) (v2 : Int32) (v3 : Int32) (v4 : Int32) (M2 : Mem) (a1 : (Int32 × Int32)) => run C_X8_image 3 (83, [some (.ref 19), some (.int v1), some (.int v2), some (.int v3), some (.int v4), some (.int a1.1), some (.int a1.2)], [.long (M2.2 20 (ix v1)), .int a1.1], M2, 0)) = (fun (v1 : Int32) (v2 : Int32) (v3 : Int32) (v4 : Int32) (M2 : Mem) (a1 : (Int32 × Int32)) => some (.inl ((br (decide ((d_X8_has (M2.2 20 (ix v1)) a1.2) = 0)) 88 3 (7)), [some (.ref 19), some (.int v1), some (.int v2), some (.int v3), some (.int v4), some (.int a1.1), some (.int a1.2)], [.int a1.1], M2, 0))) := by rfl
set_option maxRecDepth 100000 in
theorem b_X8_image_18 : (fun (v1 : Int32) (v2 : Int32) (v3 : Int32) (v4 : Int32) (M2 : Mem) (a1 : (Int32 × Int32)) => run C_X8_image 1 (95, [some (.ref 19), some (.int v1), some (.int v2), some (.int v3), some (.int v4), some (.int a1.1), some (.int a1.2)], [.int a1.1], M2, 0)) = (fun (v1 : Int32) (v2 : Int32) (v3 : Int32) (v4 : Int32) (M2 : Mem) (a1 : (Int32 × Int32)) => some (.inl (96, [some (.ref 19), some (.int v1), some (.int v2), some (.int v3), some (.int v4), some (.int a1.1), some (.int a1.2)], [.int (0 : Int32), .int a1.1], M2, 0))) := by rfl
set_option maxRecDepth 100000 in
theorem b_X8_image_19 : (fun (v1 : Int32) (v2 : Int32) (v3 : Int32) (v4 : Int32) (M2 : Mem) (a1 : (Int32 × Int32)) => run C_X8_image 2 (91, [some (.ref 19), some (.int v1), some (.int v2), some (.int v3), some (.int v4), some (.int a1.1), some (.int a1.2)], [.int a1.1], M2, 0)) = (fun (v1 : Int32) (v2 : Int32) (v3 : Int32) (v4 : Int32) (M2 : Mem) (a1 : (Int32 × Int32)) => some (.inl (96, [some (.ref 19), some (.int v1), some (.int v2), some (.int v3), some (.int v4), some (.int a1.1), some (.int a1.2)], [.int (1 : Int32), .int a1.1], M2, 0))) := by rfl
theorem m_X8_image_0 (v1 : Int32) (v2 : Int32) (v3 : Int32) (v4 : Int32) (M2 : Mem) (a1 : (Int32 × Int32)) : Rto C_X8_image (83, [some (.ref 19), some (.int v1), some (.int v2), some (.int v3), some (.int v4), some (.int a1.1), some (.int a1.2)], [.long (M2.2 20 (ix v1)), .int a1.1], M2, 0) (96, [some (.ref 19), some (.int v1), some (.int v2), some (.int v3), some (.int v4), some (.int a1.1), some (.int a1.2)], [.int (if (d_X8_has (M2.2 20 (ix v1)) a1.2) = 0 then (0 : Int32) else (1 : Int32)), .int a1.1], M2, 0) := by
  refine Rto.trans (Rto.run 3 (congrFun (congrFun (congrFun (congrFun (congrFun (congrFun b_X8_image_17 v1) v2) v3) v4) M2) a1)) ?_
  by_cases h : (d_X8_has (M2.2 20 (ix v1)) a1.2) = 0
  · refine Rto.trans (Rto.brT (q := 95) h rfl) ?_
    refine Rto.trans (Rto.run 1 (congrFun (congrFun (congrFun (congrFun (congrFun (congrFun b_X8_image_18 v1) v2) v3) v4) M2) a1)) ?_
    exact Rto.eq (by first | (simp only [if_pos h]; done) | rfl | exact absurd rfl h | (simp; done))
  · refine Rto.trans (Rto.brF (q := 91) h rfl) ?_
    refine Rto.trans (Rto.run 2 (congrFun (congrFun (congrFun (congrFun (congrFun (congrFun b_X8_image_19 v1) v2) v3) v4) M2) a1)) ?_
    exact Rto.eq (by first | (simp only [if_neg h]; done) | rfl | exact absurd rfl h | (simp; done))
set_option maxRecDepth 100000 in
theorem b_X8_image_20 : (fun (v1 : Int32) (v2 : Int32) (v3 : Int32) (v4 : Int32) (M2 : Mem) (a1 : (Int32 × Int32)) => run C_X8_image 4 (96, [some (.ref 19), some (.int v1), some (.int v2), some (.int v3), some (.int v4), some (.int a1.1), some (.int a1.2)], [.int (if (d_X8_has (M2.2 20 (ix v1)) a1.2) = 0 then (0 : Int32) else (1 : Int32)), .int a1.1], M2, 0)) = (fun (v1 : Int32) (v2 : Int32) (v3 : Int32) (v4 : Int32) (M2 : Mem) (a1 : (Int32 × Int32)) => some (.inl (68, [some (.ref 19), some (.int v1), some (.int v2), some (.int v3), some (.int v4), some (.int (a1.1 + (if (d_X8_has (M2.2 20 (ix v1)) a1.2) = 0 then (0 : Int32) else (1 : Int32)))), some (.int (a1.2 + (1 : Int32)))], [], M2, 0))) := by rfl
def g_X8_image_1 (v1 : Int32) (v4 : Int32) (M2 : Mem) : Int32 × Int32 → Option ((Int32 × Int32) ⊕ ((Int32 × Int32) ⊕ (Res × Mem))) := fun (a1 : Int32 × Int32) => (if a1.2 < v4 then (if inb v1 30 = true then some (.inl ((a1.1 + (if (d_X8_has (M2.2 20 (ix v1)) a1.2) = 0 then (0 : Int32) else (1 : Int32))), (a1.2 + (1 : Int32)))) else none) else some (.inr (.inl (a1.1, a1.2))))
set_option maxHeartbeats 2000000 in
theorem l_X8_image_1 (v1 : Int32) (v2 : Int32) (v3 : Int32) (v4 : Int32) (M : Mem) (M2 : Mem) : ∀ a1 : Int32 × Int32, RG C_X8_image ((fun (a1 : Int32 × Int32) => (68, [some (.ref 19), some (.int v1), some (.int v2), some (.int v3), some (.int v4), some (.int a1.1), some (.int a1.2)], [], M2, 0)) a1) (g_X8_image_1 v1 v4 M2 a1) (lpP (fun (a1 : Int32 × Int32) => (68, [some (.ref 19), some (.int v1), some (.int v2), some (.int v3), some (.int v4), some (.int a1.1), some (.int a1.2)], [], M2, 0)) (fun (a1 : Int32 × Int32) => (105, [some (.ref 19), some (.int v1), some (.int v2), some (.int v3), some (.int v4), some (.int a1.1), some (.int a1.2)], [], M2, 0)) id) := by
  intro a1
  unfold g_X8_image_1
  show RG C_X8_image (68, [some (.ref 19), some (.int v1), some (.int v2), some (.int v3), some (.int v4), some (.int a1.1), some (.int a1.2)], [], M2, 0) _ _
  refine RG.st 3 (congrFun (congrFun (congrFun (congrFun (congrFun (congrFun b_X8_image_14 v1) v2) v3) v4) M2) a1) ?_
  refine RG.ite (fun h9 => RG.brNF (q := 75) h9 rfl ?_) (fun h9 => RG.brNT (q := 105) h9 rfl ?_)
  · refine RG.st 4 (congrFun (congrFun (congrFun (congrFun (congrFun (congrFun b_X8_image_15 v1) v2) v3) v4) M2) a1) ?_
    refine RG.guard (fun h10 => RG.st 1 (stp_g h10 (congrFun (congrFun (congrFun (congrFun (congrFun (congrFun b_X8_image_16 v1) v2) v3) v4) M2) a1)) ?_)
    refine RG.step (m_X8_image_0 v1 v2 v3 v4 M2 a1) ?_
    refine RG.st 4 (congrFun (congrFun (congrFun (congrFun (congrFun (congrFun b_X8_image_20 v1) v2) v3) v4) M2) a1) ?_
    exact RG.to rfl (Rto.refl _)
  · exact RG.to rfl (Rto.refl _)
set_option maxRecDepth 100000 in
theorem b_X8_image_21 : (fun (v1 : Int32) (v2 : Int32) (v3 : Int32) (v4 : Int32) (M2 : Mem) (a2 : (Int32 × Int32)) => run C_X8_image 5 (105, [some (.ref 19), some (.int v1), some (.int v2), some (.int v3), some (.int v4), some (.int a2.1), some (.int a2.2)], [], M2, 0)) = (fun (v1 : Int32) (v2 : Int32) (v3 : Int32) (v4 : Int32) (M2 : Mem) (a2 : (Int32 × Int32)) => some (.inl (115, [some (.ref 19), some (.int v1), some (.int v2), some (.int v3), some (.int v4), some (.int a2.1), some (.int a2.2)], [.int a2.1, .ref 25, .ref 23], M2, 0))) := by rfl
set_option maxRecDepth 100000 in
theorem b_X8_image_22 : (fun (v1 : Int32) (v2 : Int32) (v3 : Int32) (v4 : Int32) (M2 : Mem) (a2 : (Int32 × Int32)) => stp C_X8_image (115, [some (.ref 19), some (.int v1), some (.int v2), some (.int v3), some (.int v4), some (.int a2.1), some (.int a2.2)], [.int a2.1, .ref 25, .ref 23], M2, 0)) = (fun (v1 : Int32) (v2 : Int32) (v3 : Int32) (v4 : Int32) (M2 : Mem) (a2 : (Int32 × Int32)) => (if inb a2.1 6 = true then some (.inl (116, [some (.ref 19), some (.int v1), some (.int v2), some (.int v3), some (.int v4), some (.int a2.1), some (.int a2.2)], [.int (M2.1 25 (ix a2.1)), .ref 23], M2, 0)) else none)) := by rfl
set_option maxRecDepth 100000 in
theorem b_X8_image_23 : (fun (v1 : Int32) (v2 : Int32) (v3 : Int32) (v4 : Int32) (M2 : Mem) (a2 : (Int32 × Int32)) => stp C_X8_image (116, [some (.ref 19), some (.int v1), some (.int v2), some (.int v3), some (.int v4), some (.int a2.1), some (.int a2.2)], [.int (M2.1 25 (ix a2.1)), .ref 23], M2, 0)) = (fun (v1 : Int32) (v2 : Int32) (v3 : Int32) (v4 : Int32) (M2 : Mem) (a2 : (Int32 × Int32)) => (if inb (M2.1 25 (ix a2.1)) 36 = true then some (.inl (117, [some (.ref 19), some (.int v1), some (.int v2), some (.int v3), some (.int v4), some (.int a2.1), some (.int a2.2)], [.int (M2.1 23 (ix (M2.1 25 (ix a2.1))))], M2, 0)) else none)) := by rfl
set_option maxRecDepth 100000 in
theorem b_X8_image_24 : (fun (v1 : Int32) (v2 : Int32) (v3 : Int32) (v4 : Int32) (M2 : Mem) (a2 : (Int32 × Int32)) => run C_X8_image 1 (117, [some (.ref 19), some (.int v1), some (.int v2), some (.int v3), some (.int v4), some (.int a2.1), some (.int a2.2)], [.int (M2.1 23 (ix (M2.1 25 (ix a2.1))))], M2, 0)) = (fun (v1 : Int32) (v2 : Int32) (v3 : Int32) (v4 : Int32) (M2 : Mem) (a2 : (Int32 × Int32)) => some (.inr (.inl (some (.int (M2.1 23 (ix (M2.1 25 (ix a2.1)))))), M2, 0))) := by rfl
set_option maxRecDepth 100000 in
theorem b_X8_image_25 : (fun (v1 : Int32) (v2 : Int32) (v3 : Int32) (v4 : Int32) (M : Mem) (w1 : Int32) => run C_X8_image 2 (24, [some (.ref 19), some (.int v1), some (.int v2), some (.int v3), some (.int v4), none, none], [], (sI M 19 15 w1), 0)) = (fun (v1 : Int32) (v2 : Int32) (v3 : Int32) (v4 : Int32) (M : Mem) (w1 : Int32) => some (.inr (.inl (some (.int (0 : Int32))), (sI M 19 15 w1), 0))) := by rfl
def d_X8_image (v1 : Int32) (v2 : Int32) (v3 : Int32) (v4 : Int32) (M : Mem) : Option (Res × Mem) := ((d_X8_bars v1 v2 v3 (d_X8_isElement v4 M) M).bind fun w1 => (if w1 ≤ 0 then (if inb v1 30 = true then (if (d_X8_has (M.2 20 (ix v1)) v4) = 0 then some (.inl (some (.int (-1 : Int32))), (sI M 19 15 w1)) else (if inb v1 30 = true then (if inb v2 30 = true then (onI (d_X8_mapsOf (M.2 20 (ix v1)) (M.2 20 (ix v2)) v3 (sI M 19 15 w1)) (fun w3 M2 => (if w3 = 0 then some (.inl (some (.int (-1 : Int32))), M2) else (onIt (iter (g_X8_image_1 v1 v4 M2) 20000 ((0 : Int32), (0 : Int32))) (fun (a2 : Int32 × Int32) => (if inb a2.1 6 = true then (if inb (M2.1 25 (ix a2.1)) 36 = true then some (.inl (some (.int (M2.1 23 (ix (M2.1 25 (ix a2.1)))))), M2) else none) else none)) (fun r => some r)))) (fun r => some r)) else none) else none)) else none) else some (.inl (some (.int (0 : Int32))), (sI M 19 15 w1))))
set_option maxHeartbeats 2000000 in
theorem r_X8_image (v1 : Int32) (v2 : Int32) (v3 : Int32) (v4 : Int32) (M : Mem) : RG C_X8_image (0, [some (.ref 19), some (.int v1), some (.int v2), some (.int v3), some (.int v4), none, none], [], M, 0) (d_X8_image v1 v2 v3 v4 M) (fun r => .inr r) := by
  unfold d_X8_image
  refine RG.st 8 (congrFun (congrFun (congrFun (congrFun (congrFun b_X8_image_0 v1) v2) v3) v4) M) ?_
  refine RG.bind (fun w1 h1 => RG.st 1 (run_callV (v := some (.int w1)) rfl rfl rfl rfl rfl (bindI h1)) ?_)
  show RG C_X8_image (14, [some (.ref 19), some (.int v1), some (.int v2), some (.int v3), some (.int v4), none, none], [.int w1, .ref 19], M, 0) _ _
  refine RG.st 4 (congrFun (congrFun (congrFun (congrFun (congrFun (congrFun b_X8_image_1 v1) v2) v3) v4) M) w1) ?_
  refine RG.ite (fun h2 => RG.brT (q := 26) h2 rfl ?_) (fun h2 => RG.brF (q := 24) h2 rfl ?_)
  · refine RG.st 3 (congrFun (congrFun (congrFun (congrFun (congrFun (congrFun b_X8_image_2 v1) v2) v3) v4) M) w1) ?_
    refine RG.guard (fun h3 => RG.st 1 (stp_g h3 (congrFun (congrFun (congrFun (congrFun (congrFun (congrFun b_X8_image_3 v1) v2) v3) v4) M) w1)) ?_)
    refine RG.st 3 (congrFun (congrFun (congrFun (congrFun (congrFun (congrFun b_X8_image_4 v1) v2) v3) v4) M) w1) ?_
    refine RG.ite (fun h4 => RG.brT (q := 60) h4 rfl ?_) (fun h4 => RG.brF (q := 40) h4 rfl ?_)
    · exact RG.fin rfl (Rend.run 2 (congrFun (congrFun (congrFun (congrFun (congrFun (congrFun b_X8_image_5 v1) v2) v3) v4) M) w1))
    · refine RG.st 4 (congrFun (congrFun (congrFun (congrFun (congrFun (congrFun b_X8_image_6 v1) v2) v3) v4) M) w1) ?_
      refine RG.guard (fun h5 => RG.st 1 (stp_g h5 (congrFun (congrFun (congrFun (congrFun (congrFun (congrFun b_X8_image_7 v1) v2) v3) v4) M) w1)) ?_)
      refine RG.st 3 (congrFun (congrFun (congrFun (congrFun (congrFun (congrFun b_X8_image_8 v1) v2) v3) v4) M) w1) ?_
      refine RG.guard (fun h6 => RG.st 1 (stp_g h6 (congrFun (congrFun (congrFun (congrFun (congrFun (congrFun b_X8_image_9 v1) v2) v3) v4) M) w1)) ?_)
      refine RG.st 1 (congrFun (congrFun (congrFun (congrFun (congrFun (congrFun b_X8_image_10 v1) v2) v3) v4) M) w1) ?_
      refine RG.callI (fun w3 M2 h7 => RG.st 1 (run_callV (v := (some (.int w3))) rfl rfl rfl rfl rfl h7) ?_) (fun E M2 h7 => RG.fin rfl (Rend.run 1 (run_callVx rfl rfl rfl rfl rfl h7 rfl)))
      show RG C_X8_image (57, [some (.ref 19), some (.int v1), some (.int v2), some (.int v3), some (.int v4), none, none], [.int w3], M2, 0) _ _
      refine RG.st 1 (congrFun (congrFun (congrFun (congrFun (congrFun (congrFun b_X8_image_11 v1) v2) v3) v4) w3) M2) ?_
      refine RG.ite (fun h8 => RG.brNF (q := 60) h8 rfl ?_) (fun h8 => RG.brNT (q := 62) h8 rfl ?_)
      · exact RG.fin rfl (Rend.run 2 (congrFun (congrFun (congrFun (congrFun (congrFun b_X8_image_12 v1) v2) v3) v4) M2))
      · refine RG.st 4 (congrFun (congrFun (congrFun (congrFun (congrFun b_X8_image_13 v1) v2) v3) v4) M2) ?_
        refine RG.loop (hd := (fun (a1 : Int32 × Int32) => (68, [some (.ref 19), some (.int v1), some (.int v2), some (.int v3), some (.int v4), some (.int a1.1), some (.int a1.2)], [], M2, 0))) (ex := (fun (a1 : Int32 × Int32) => (105, [some (.ref 19), some (.int v1), some (.int v2), some (.int v3), some (.int v4), some (.int a1.1), some (.int a1.2)], [], M2, 0))) (rt := id) (l_X8_image_1 v1 v2 v3 v4 M M2) (fun a2 => ?_) (fun r v h => by cases h; rfl)
        show RG C_X8_image (105, [some (.ref 19), some (.int v1), some (.int v2), some (.int v3), some (.int v4), some (.int a2.1), some (.int a2.2)], [], M2, 0) _ _
        refine RG.st 5 (congrFun (congrFun (congrFun (congrFun (congrFun (congrFun b_X8_image_21 v1) v2) v3) v4) M2) a2) ?_
        refine RG.guard (fun h11 => RG.st 1 (stp_g h11 (congrFun (congrFun (congrFun (congrFun (congrFun (congrFun b_X8_image_22 v1) v2) v3) v4) M2) a2)) ?_)
        refine RG.guard (fun h12 => RG.st 1 (stp_g h12 (congrFun (congrFun (congrFun (congrFun (congrFun (congrFun b_X8_image_23 v1) v2) v3) v4) M2) a2)) ?_)
        exact RG.fin rfl (Rend.run 1 (congrFun (congrFun (congrFun (congrFun (congrFun (congrFun b_X8_image_24 v1) v2) v3) v4) M2) a2))
  · exact RG.fin rfl (Rend.run 2 (congrFun (congrFun (congrFun (congrFun (congrFun (congrFun b_X8_image_25 v1) v2) v3) v4) M) w1))
def fn_X8_image : Fn := fun av M => match av with
  | [.ref r0, .int v1, .int v2, .int v3, .int v4] => bif Nat.beq r0 19 then (d_X8_image v1 v2 v3 v4 M) else (none)
  | _ => none
theorem cfg_X8_image : CfgOK RX8 cX8_image (C_X8_image) 7 := ⟨tk_X8_image, csF_nd, flk_X8, (List.forall_mem_cons.mpr ⟨Or.inr ⟨yX8_has, cX8_has, 3, (some .boolean), none, 1, ok_X8_has, by decide, by decide, w_code_SumsetryModel_has__JI_Z, w_initialized_SumsetryModel, ⟨by decide, by decide⟩, Or.inl ⟨rfl, show (parseMethodDescriptor yX8_has.desc).map (fun d => d.parameters.length) = some 2 from by decide +kernel, w_methodLink_SumsetryModel_60, w_static_SumsetryModel_has__JI_Z⟩⟩,
    List.forall_mem_cons.mpr ⟨Or.inr ⟨yX8_isElement, cX8_isElement, 2, (some .boolean), none, 2, ok_X8_isElement, by decide, by decide, w_code_SumsetryModel_isElement__I_Z, w_initialized_SumsetryModel, ⟨by decide, by decide⟩, Or.inr (Or.inr ⟨rfl, rfl, show (parseMethodDescriptor yX8_isElement.desc).map (fun d => d.parameters.length + 1) = some 2 from by decide +kernel, w_methodLink_SumsetryModel_78, w_instanceMethod_SumsetryModel_isElement__I_Z, w_selects_SumsetryModel_isElement__I_Z, ⟨_, rfl, rfl⟩⟩)⟩,
    List.forall_mem_cons.mpr ⟨Or.inr ⟨yX8_bars, cX8_bars, 6, (some .int), none, 3, ok_X8_bars, by decide, by decide, w_code_SumsetryModel_bars__IIIZ_I, w_initialized_SumsetryModel, ⟨by decide, by decide⟩, Or.inr (Or.inr ⟨rfl, rfl, show (parseMethodDescriptor yX8_bars.desc).map (fun d => d.parameters.length + 1) = some 5 from by decide +kernel, w_methodLink_SumsetryModel_142, w_instanceMethod_SumsetryModel_bars__IIIZ_I, w_selects_SumsetryModel_bars__IIIZ_I, ⟨_, rfl, rfl⟩⟩)⟩,
    List.forall_mem_cons.mpr ⟨Or.inr ⟨yX8_mapsOf, cX8_mapsOf, 13, (some .int), none, 6, ok_X8_mapsOf, by decide, by decide, w_code_SumsetryModel_mapsOf__JJI_I, w_initialized_SumsetryModel, ⟨by decide, by decide⟩, Or.inr (Or.inr ⟨rfl, rfl, show (parseMethodDescriptor yX8_mapsOf.desc).map (fun d => d.parameters.length + 1) = some 4 from by decide +kernel, w_methodLink_SumsetryModel_146, w_instanceMethod_SumsetryModel_mapsOf__JJI_I, w_selects_SumsetryModel_mapsOf__JJI_I, ⟨_, rfl, rfl⟩⟩)⟩, fun _ h => absurd h List.not_mem_nil⟩⟩⟩⟩), ink_X8, lgk_X8, fun e h => absurd h List.not_mem_nil, (fun h hh => absurd hh List.not_mem_nil)⟩
theorem ok_X8_image : OkM csF yX8_image (Cond.code yX8_image cX8_image 7 (some .int)) 7 0 fn_X8_image :=
  OkM_of (own := RX8) (C := C_X8_image) (by decide +kernel) rfl (cfg_X8_image) rfl rfl rfl rfl (by
    intro av M o M' h
    unfold fn_X8_image at h
    split at h
    · rename_i r0 v1 v2 v3 v4
      rcases bif_cs h with ⟨hb, h⟩ | ⟨-, h⟩
      · skip
        have hr0 := hb
        obtain rfl := Nat.eq_of_beq_eq_true hr0
        exact ⟨rfl, Nat.le_of_ble_eq_true rfl, (r_X8_image v1 v2 v3 v4 M) (o, M') h⟩
      · cases h
    · cases h)
def t_X8_maps : List (Nat × Instr × Nat) := [(0, .aload_n 0, 1), (1, .aload_n 0, 1), (2, .iload_n 1, 1), (3, .iload_n 2, 1), (4, .iload_n 3, 1), (5, .iconst 1, 1), (6, .invokevirtual 142, 3), (9, .putfield 46, 3), (12, .aload_n 0, 1), (13, .getfield 46, 3), (16, .ifCond .le 7, 3), (19, .iconst 0, 1), (20, .goto 20, 3), (23, .aload_n 0, 1), (24, .aload_n 0, 1), (25, .getfield 16, 3), (28, .iload_n 1, 1), (29, .laload, 1), (30, .aload_n 0, 1), (31, .getfield 16, 3), (34, .iload_n 2, 1), (35, .laload, 1), (36, .iload_n 3, 1), (37, .invokevirtual 146, 3), (40, .ireturn, 1)]
theorem tk_X8_maps : ∀ x ∈ t_X8_maps, decode cX8_maps x.1 = .ok x.2 := by decide +kernel
def C_X8_maps : Cfg := (t_X8_maps, csF, fl_X8, [(142, 2, 6, 5, 0, fn_X8_bars), (146, 2, 6, 4, 0, fn_X8_mapsOf)], in_X8, lg_X8, [], [], none, (some .int), 0)
set_option maxRecDepth 100000 in
theorem b_X8_maps_0 : (fun (v1 : Int32) (v2 : Int32) (v3 : Int32) (M : Mem) => run C_X8_maps 6 (0, [some (.ref 19), some (.int v1), some (.int v2), some (.int v3)], [], M, 0)) = (fun (v1 : Int32) (v2 : Int32) (v3 : Int32) (M : Mem) => some (.inl (6, [some (.ref 19), some (.int v1), some (.int v2), some (.int v3)], [.int (1 : Int32), .int v3, .int v2, .int v1, .ref 19, .ref 19], M, 0))) := by rfl
set_option maxRecDepth 100000 in
theorem b_X8_maps_1 : (fun (v1 : Int32) (v2 : Int32) (v3 : Int32) (M : Mem) (w1 : Int32) => run C_X8_maps 4 (9, [some (.ref 19), some (.int v1), some (.int v2), some (.int v3)], [.int w1, .ref 19], M, 0)) = (fun (v1 : Int32) (v2 : Int32) (v3 : Int32) (M : Mem) (w1 : Int32) => some (.inl ((br (decide (w1 ≤ 0)) 16 3 (7)), [some (.ref 19), some (.int v1), some (.int v2), some (.int v3)], [], (sI M 19 15 w1), 0))) := by rfl
set_option maxRecDepth 100000 in
theorem b_X8_maps_2 : (fun (v1 : Int32) (v2 : Int32) (v3 : Int32) (M : Mem) (w1 : Int32) => run C_X8_maps 4 (23, [some (.ref 19), some (.int v1), some (.int v2), some (.int v3)], [], (sI M 19 15 w1), 0)) = (fun (v1 : Int32) (v2 : Int32) (v3 : Int32) (M : Mem) (w1 : Int32) => some (.inl (29, [some (.ref 19), some (.int v1), some (.int v2), some (.int v3)], [.int v1, .ref 20, .ref 19], (sI M 19 15 w1), 0))) := by rfl
set_option maxRecDepth 100000 in
theorem b_X8_maps_3 : (fun (v1 : Int32) (v2 : Int32) (v3 : Int32) (M : Mem) (w1 : Int32) => stp C_X8_maps (29, [some (.ref 19), some (.int v1), some (.int v2), some (.int v3)], [.int v1, .ref 20, .ref 19], (sI M 19 15 w1), 0)) = (fun (v1 : Int32) (v2 : Int32) (v3 : Int32) (M : Mem) (w1 : Int32) => (if inb v1 30 = true then some (.inl (30, [some (.ref 19), some (.int v1), some (.int v2), some (.int v3)], [.long (M.2 20 (ix v1)), .ref 19], (sI M 19 15 w1), 0)) else none)) := by rfl
set_option maxRecDepth 100000 in
theorem b_X8_maps_4 : (fun (v1 : Int32) (v2 : Int32) (v3 : Int32) (M : Mem) (w1 : Int32) => run C_X8_maps 3 (30, [some (.ref 19), some (.int v1), some (.int v2), some (.int v3)], [.long (M.2 20 (ix v1)), .ref 19], (sI M 19 15 w1), 0)) = (fun (v1 : Int32) (v2 : Int32) (v3 : Int32) (M : Mem) (w1 : Int32) => some (.inl (35, [some (.ref 19), some (.int v1), some (.int v2), some (.int v3)], [.int v2, .ref 20, .long (M.2 20 (ix v1)), .ref 19], (sI M 19 15 w1), 0))) := by rfl
set_option maxRecDepth 100000 in
theorem b_X8_maps_5 : (fun (v1 : Int32) (v2 : Int32) (v3 : Int32) (M : Mem) (w1 : Int32) => stp C_X8_maps (35, [some (.ref 19), some (.int v1), some (.int v2), some (.int v3)], [.int v2, .ref 20, .long (M.2 20 (ix v1)), .ref 19], (sI M 19 15 w1), 0)) = (fun (v1 : Int32) (v2 : Int32) (v3 : Int32) (M : Mem) (w1 : Int32) => (if inb v2 30 = true then some (.inl (36, [some (.ref 19), some (.int v1), some (.int v2), some (.int v3)], [.long (M.2 20 (ix v2)), .long (M.2 20 (ix v1)), .ref 19], (sI M 19 15 w1), 0)) else none)) := by rfl
set_option maxRecDepth 100000 in
theorem b_X8_maps_6 : (fun (v1 : Int32) (v2 : Int32) (v3 : Int32) (M : Mem) (w1 : Int32) => run C_X8_maps 1 (36, [some (.ref 19), some (.int v1), some (.int v2), some (.int v3)], [.long (M.2 20 (ix v2)), .long (M.2 20 (ix v1)), .ref 19], (sI M 19 15 w1), 0)) = (fun (v1 : Int32) (v2 : Int32) (v3 : Int32) (M : Mem) (w1 : Int32) => some (.inl (37, [some (.ref 19), some (.int v1), some (.int v2), some (.int v3)], [.int v3, .long (M.2 20 (ix v2)), .long (M.2 20 (ix v1)), .ref 19], (sI M 19 15 w1), 0))) := by rfl
set_option maxRecDepth 100000 in
theorem b_X8_maps_7 : (fun (v1 : Int32) (v2 : Int32) (v3 : Int32) (w3 : Int32) (M2 : Mem) => run C_X8_maps 1 (40, [some (.ref 19), some (.int v1), some (.int v2), some (.int v3)], [.int w3], M2, 0)) = (fun (v1 : Int32) (v2 : Int32) (v3 : Int32) (w3 : Int32) (M2 : Mem) => some (.inr (.inl (some (.int w3)), M2, 0))) := by rfl
set_option maxRecDepth 100000 in
theorem b_X8_maps_8 : (fun (v1 : Int32) (v2 : Int32) (v3 : Int32) (M : Mem) (w1 : Int32) => run C_X8_maps 3 (19, [some (.ref 19), some (.int v1), some (.int v2), some (.int v3)], [], (sI M 19 15 w1), 0)) = (fun (v1 : Int32) (v2 : Int32) (v3 : Int32) (M : Mem) (w1 : Int32) => some (.inr (.inl (some (.int (0 : Int32))), (sI M 19 15 w1), 0))) := by rfl
def d_X8_maps (v1 : Int32) (v2 : Int32) (v3 : Int32) (M : Mem) : Option (Res × Mem) := ((d_X8_bars v1 v2 v3 (1 : Int32) M).bind fun w1 => (if w1 ≤ 0 then (if inb v1 30 = true then (if inb v2 30 = true then (onI (d_X8_mapsOf (M.2 20 (ix v1)) (M.2 20 (ix v2)) v3 (sI M 19 15 w1)) (fun w3 M2 => some (.inl (some (.int w3)), M2)) (fun r => some r)) else none) else none) else some (.inl (some (.int (0 : Int32))), (sI M 19 15 w1))))
set_option maxHeartbeats 2000000 in
theorem r_X8_maps (v1 : Int32) (v2 : Int32) (v3 : Int32) (M : Mem) : RG C_X8_maps (0, [some (.ref 19), some (.int v1), some (.int v2), some (.int v3)], [], M, 0) (d_X8_maps v1 v2 v3 M) (fun r => .inr r) := by
  unfold d_X8_maps
  refine RG.st 6 (congrFun (congrFun (congrFun (congrFun b_X8_maps_0 v1) v2) v3) M) ?_
  refine RG.bind (fun w1 h1 => RG.st 1 (run_callV (v := some (.int w1)) rfl rfl rfl rfl rfl (bindI h1)) ?_)
  show RG C_X8_maps (9, [some (.ref 19), some (.int v1), some (.int v2), some (.int v3)], [.int w1, .ref 19], M, 0) _ _
  refine RG.st 4 (congrFun (congrFun (congrFun (congrFun (congrFun b_X8_maps_1 v1) v2) v3) M) w1) ?_
  refine RG.ite (fun h2 => RG.brT (q := 23) h2 rfl ?_) (fun h2 => RG.brF (q := 19) h2 rfl ?_)
  · refine RG.st 4 (congrFun (congrFun (congrFun (congrFun (congrFun b_X8_maps_2 v1) v2) v3) M) w1) ?_
    refine RG.guard (fun h3 => RG.st 1 (stp_g h3 (congrFun (congrFun (congrFun (congrFun (congrFun b_X8_maps_3 v1) v2) v3) M) w1)) ?_)
    refine RG.st 3 (congrFun (congrFun (congrFun (congrFun (congrFun b_X8_maps_4 v1) v2) v3) M) w1) ?_
    refine RG.guard (fun h4 => RG.st 1 (stp_g h4 (congrFun (congrFun (congrFun (congrFun (congrFun b_X8_maps_5 v1) v2) v3) M) w1)) ?_)
    refine RG.st 1 (congrFun (congrFun (congrFun (congrFun (congrFun b_X8_maps_6 v1) v2) v3) M) w1) ?_
    refine RG.callI (fun w3 M2 h5 => RG.st 1 (run_callV (v := (some (.int w3))) rfl rfl rfl rfl rfl h5) ?_) (fun E M2 h5 => RG.fin rfl (Rend.run 1 (run_callVx rfl rfl rfl rfl rfl h5 rfl)))
    show RG C_X8_maps (40, [some (.ref 19), some (.int v1), some (.int v2), some (.int v3)], [.int w3], M2, 0) _ _
    exact RG.fin rfl (Rend.run 1 (congrFun (congrFun (congrFun (congrFun (congrFun b_X8_maps_7 v1) v2) v3) w3) M2))
  · exact RG.fin rfl (Rend.run 3 (congrFun (congrFun (congrFun (congrFun (congrFun b_X8_maps_8 v1) v2) v3) M) w1))
def fn_X8_maps : Fn := fun av M => match av with
  | [.ref r0, .int v1, .int v2, .int v3] => bif Nat.beq r0 19 then (d_X8_maps v1 v2 v3 M) else (none)
  | _ => none
theorem cfg_X8_maps : CfgOK RX8 cX8_maps (C_X8_maps) 7 := ⟨tk_X8_maps, csF_nd, flk_X8, (List.forall_mem_cons.mpr ⟨Or.inr ⟨yX8_bars, cX8_bars, 6, (some .int), none, 3, ok_X8_bars, by decide, by decide, w_code_SumsetryModel_bars__IIIZ_I, w_initialized_SumsetryModel, ⟨by decide, by decide⟩, Or.inr (Or.inr ⟨rfl, rfl, show (parseMethodDescriptor yX8_bars.desc).map (fun d => d.parameters.length + 1) = some 5 from by decide +kernel, w_methodLink_SumsetryModel_142, w_instanceMethod_SumsetryModel_bars__IIIZ_I, w_selects_SumsetryModel_bars__IIIZ_I, ⟨_, rfl, rfl⟩⟩)⟩,
    List.forall_mem_cons.mpr ⟨Or.inr ⟨yX8_mapsOf, cX8_mapsOf, 13, (some .int), none, 6, ok_X8_mapsOf, by decide, by decide, w_code_SumsetryModel_mapsOf__JJI_I, w_initialized_SumsetryModel, ⟨by decide, by decide⟩, Or.inr (Or.inr ⟨rfl, rfl, show (parseMethodDescriptor yX8_mapsOf.desc).map (fun d => d.parameters.length + 1) = some 4 from by decide +kernel, w_methodLink_SumsetryModel_146, w_instanceMethod_SumsetryModel_mapsOf__JJI_I, w_selects_SumsetryModel_mapsOf__JJI_I, ⟨_, rfl, rfl⟩⟩)⟩, fun _ h => absurd h List.not_mem_nil⟩⟩), ink_X8, lgk_X8, fun e h => absurd h List.not_mem_nil, (fun h hh => absurd hh List.not_mem_nil)⟩
theorem ok_X8_maps : OkM csF yX8_maps (Cond.code yX8_maps cX8_maps 4 (some .int)) 7 0 fn_X8_maps :=
  OkM_of (own := RX8) (C := C_X8_maps) (by decide +kernel) rfl (cfg_X8_maps) rfl rfl rfl rfl (by
    intro av M o M' h
    unfold fn_X8_maps at h
    split at h
    · rename_i r0 v1 v2 v3
      rcases bif_cs h with ⟨hb, h⟩ | ⟨-, h⟩
      · skip
        have hr0 := hb
        obtain rfl := Nat.eq_of_beq_eq_true hr0
        exact ⟨rfl, Nat.le_of_ble_eq_true rfl, (r_X8_maps v1 v2 v3 M) (o, M') h⟩
      · cases h
    · cases h)
def t_X8_isFree : List (Nat × Instr × Nat) := [(0, .aload_n 0, 1), (1, .lload_n 1, 1), (2, .lload_n 1, 1), (3, .invokevirtual 99, 3), (6, .lload_n 1, 1), (7, .land, 1), (8, .lconst 0, 1), (9, .lcmp, 1), (10, .ifCond .ne 7, 3), (13, .iconst 1, 1), (14, .goto 4, 3), (17, .iconst 0, 1), (18, .ireturn, 1)]
theorem tk_X8_isFree : ∀ x ∈ t_X8_isFree, decode cX8_isFree x.1 = .ok x.2 := by decide +kernel
def C_X8_isFree : Cfg := (t_X8_isFree, csF, fl_X8, [(99, 2, 6, 3, 0, fn_X8_sumOf)], in_X8, lg_X8, [], [], none, (some .boolean), 0)
set_option maxRecDepth 100000 in
theorem b_X8_isFree_0 : (fun (v1 : Int64) (M : Mem) => run C_X8_isFree 3 (0, [some (.ref 19), some (.long v1), none], [], M, 0)) = (fun (v1 : Int64) (M : Mem) => some (.inl (3, [some (.ref 19), some (.long v1), none], [.long v1, .long v1, .ref 19], M, 0))) := by rfl
set_option maxRecDepth 100000 in
theorem b_X8_isFree_1 : (fun (v1 : Int64) (M : Mem) (w1 : Int64) => run C_X8_isFree 5 (6, [some (.ref 19), some (.long v1), none], [.long w1], M, 0)) = (fun (v1 : Int64) (M : Mem) (w1 : Int64) => some (.inl ((br (!decide ((lg_cmp (w1 &&& v1) (0 : Int64)) = 0)) 10 3 (7)), [some (.ref 19), some (.long v1), none], [], M, 0))) := by rfl
set_option maxRecDepth 100000 in
theorem b_X8_isFree_2 : (fun (v1 : Int64) (M : Mem) => run C_X8_isFree 3 (13, [some (.ref 19), some (.long v1), none], [], M, 0)) = (fun (v1 : Int64) (M : Mem) => some (.inr (.inl (some (.int (1 : Int32))), M, 0))) := by rfl
set_option maxRecDepth 100000 in
theorem b_X8_isFree_3 : (fun (v1 : Int64) (M : Mem) => run C_X8_isFree 2 (17, [some (.ref 19), some (.long v1), none], [], M, 0)) = (fun (v1 : Int64) (M : Mem) => some (.inr (.inl (some (.int (0 : Int32))), M, 0))) := by rfl
def d_X8_isFree (v1 : Int64) (M : Mem) : Option Int32 := ((d_X8_sumOf v1 v1 M).bind fun w1 => (if (lg_cmp (w1 &&& v1) (0 : Int64)) = 0 then some (1 : Int32) else some (0 : Int32)))
set_option maxHeartbeats 2000000 in
theorem r_X8_isFree (v1 : Int64) (M : Mem) : RG C_X8_isFree (0, [some (.ref 19), some (.long v1), none], [], M, 0) (d_X8_isFree v1 M) (fun v => .inr (.inl (some (.int v)), M)) := by
  unfold d_X8_isFree
  refine RG.st 3 (congrFun (congrFun b_X8_isFree_0 v1) M) ?_
  refine RG.bind (fun w1 h1 => RG.st 1 (run_callV (v := some (.long w1)) rfl rfl rfl rfl rfl (bindL h1)) ?_)
  show RG C_X8_isFree (6, [some (.ref 19), some (.long v1), none], [.long w1], M, 0) _ _
  refine RG.st 5 (congrFun (congrFun (congrFun b_X8_isFree_1 v1) M) w1) ?_
  refine RG.ite (fun h2 => RG.brNF (q := 13) h2 rfl ?_) (fun h2 => RG.brNT (q := 17) h2 rfl ?_)
  · exact RG.fin rfl (Rend.run 3 (congrFun (congrFun b_X8_isFree_2 v1) M))
  · exact RG.fin rfl (Rend.run 2 (congrFun (congrFun b_X8_isFree_3 v1) M))
def fn_X8_isFree : Fn := fun av M => match av with
  | [.ref r0, .long v1] => bif Nat.beq r0 19 then (d_X8_isFree v1 M).bind fun v => some (.inl (some (.int v)), M) else (none)
  | _ => none
theorem cfg_X8_isFree : CfgOK RX8 cX8_isFree (C_X8_isFree) 5 := ⟨tk_X8_isFree, csF_nd, flk_X8, (List.forall_mem_cons.mpr ⟨Or.inr ⟨yX8_sumOf, cX8_sumOf, 5, (some .long), none, 4, ok_X8_sumOf, by decide, by decide, w_code_SumsetryModel_sumOf__JJ_J, w_initialized_SumsetryModel, ⟨by decide, by decide⟩, Or.inr (Or.inr ⟨rfl, rfl, show (parseMethodDescriptor yX8_sumOf.desc).map (fun d => d.parameters.length + 1) = some 3 from by decide +kernel, w_methodLink_SumsetryModel_99, w_instanceMethod_SumsetryModel_sumOf__JJ_J, w_selects_SumsetryModel_sumOf__JJ_J, ⟨_, rfl, rfl⟩⟩)⟩, fun _ h => absurd h List.not_mem_nil⟩), ink_X8, lgk_X8, fun e h => absurd h List.not_mem_nil, (fun h hh => absurd hh List.not_mem_nil)⟩
theorem ok_X8_isFree : OkM csF yX8_isFree (Cond.code yX8_isFree cX8_isFree 3 (some .boolean)) 5 0 fn_X8_isFree :=
  OkM_of (own := RX8) (C := C_X8_isFree) (by decide +kernel) rfl (cfg_X8_isFree) rfl rfl rfl rfl (by
    intro av M o M' h
    unfold fn_X8_isFree at h
    split at h
    · rename_i r0 v1
      rcases bif_cs h with ⟨hb, h⟩ | ⟨-, h⟩
      · skip
        have hr0 := hb
        obtain rfl := Nat.eq_of_beq_eq_true hr0
        obtain ⟨w, hw, h⟩ := bind_cs h
        cases h
        exact ⟨rfl, Nat.le_of_ble_eq_true rfl, (r_X8_isFree v1 M) w hw⟩
      · cases h
    · cases h)
def t_X8_isSidon : List (Nat × Instr × Nat) := [(0, .lconst 0, 1), (1, .lstore_n 3, 1), (2, .iconst 1, 1), (3, .istore 5, 2), (5, .iconst 0, 1), (6, .istore 6, 2), (8, .iload 6, 2), (10, .aload_n 0, 1), (11, .invokevirtual 49, 3), (14, .if_icmp .ge 83, 3), (17, .iconst 0, 1), (18, .istore 7, 2), (20, .iload 7, 2), (22, .iload 6, 2), (24, .if_icmp .gt 67, 3), (27, .lload_n 1, 1), (28, .iload 6, 2), (30, .invokestatic 60, 3), (33, .ifCond .eq 58, 3), (36, .lload_n 1, 1), (37, .iload 7, 2), (39, .invokestatic 60, 3), (42, .ifCond .eq 16, 3), (45, .lconst 1, 1), (46, .aload_n 0, 1), (47, .iload 6, 2), (49, .iload 7, 2), (51, .invokevirtual 128, 3), (54, .lshl, 1), (55, .goto 4, 3), (58, .lconst 0, 1), (59, .lstore 8, 2), (61, .iload 5, 2), (63, .lload_n 3, 1), (64, .lload 8, 2), (66, .land, 1), (67, .lconst 0, 1), (68, .lcmp, 1), (69, .ifCond .ne 7, 3), (72, .iconst 1, 1), (73, .goto 4, 3), (76, .iconst 0, 1), (77, .iand, 1), (78, .istore 5, 2), (80, .lload_n 3, 1), (81, .lload 8, 2), (83, .lor, 1), (84, .lstore_n 3, 1), (85, .iinc 7 1, 3), (88, .goto (-68), 3), (91, .iinc 6 1, 3), (94, .goto (-86), 3), (97, .iload 5, 2), (99, .ireturn, 1)]
theorem tk_X8_isSidon : ∀ x ∈ t_X8_isSidon, decode cX8_isSidon x.1 = .ok x.2 := by decide +kernel
def C_X8_isSidon : Cfg := (t_X8_isSidon, csF, fl_X8, [(49, 2, 6, 1, 0, fn_X8_size), (60, 0, 6, 2, 0, fn_X8_has), (128, 2, 6, 3, 0, fn_X8_added)], in_X8, lg_X8, [], [], none, (some .boolean), 0)
set_option maxRecDepth 100000 in
theorem b_X8_isSidon_0 : (fun (v1 : Int64) (M : Mem) => run C_X8_isSidon 6 (0, [some (.ref 19), some (.long v1), none, none, none, none, none, none, none, none], [], M, 0)) = (fun (v1 : Int64) (M : Mem) => some (.inl (8, [some (.ref 19), some (.long v1), none, some (.long (0 : Int64)), none, some (.int (1 : Int32)), some (.int (0 : Int32)), none, none, none], [], M, 0))) := by rfl
set_option maxRecDepth 100000 in
theorem b_X8_isSidon_1 : (fun (v1 : Int64) (M : Mem) (a1 : (Int64 × Int32 × Int32)) => run C_X8_isSidon 4 (8, [some (.ref 19), some (.long v1), none, some (.long a1.1), none, some (.int a1.2.1), some (.int a1.2.2), none, none, none], [], M, 0)) = (fun (v1 : Int64) (M : Mem) (a1 : (Int64 × Int32 × Int32)) => some (.inl ((br (!decide (a1.2.2 < (d_X8_size M))) 14 3 (83)), [some (.ref 19), some (.long v1), none, some (.long a1.1), none, some (.int a1.2.1), some (.int a1.2.2), none, none, none], [], M, 0))) := by rfl
set_option maxRecDepth 100000 in
theorem b_X8_isSidon_2 : (fun (v1 : Int64) (M : Mem) (a1 : (Int64 × Int32 × Int32)) => run C_X8_isSidon 2 (17, [some (.ref 19), some (.long v1), none, some (.long a1.1), none, some (.int a1.2.1), some (.int a1.2.2), none, none, none], [], M, 0)) = (fun (v1 : Int64) (M : Mem) (a1 : (Int64 × Int32 × Int32)) => some (.inl (20, [some (.ref 19), some (.long v1), none, some (.long a1.1), none, some (.int a1.2.1), some (.int a1.2.2), some (.int (0 : Int32)), none, none], [], M, 0))) := by rfl
set_option maxRecDepth 100000 in
theorem b_X8_isSidon_3 : (fun (v1 : Int64) (M : Mem) (a1 : (Int64 × Int32 × Int32)) (a2 : (Int64 × Int32 × Int32)) => run C_X8_isSidon 3 (20, [some (.ref 19), some (.long v1), none, some (.long a2.1), none, some (.int a2.2.1), some (.int a1.2.2), some (.int a2.2.2), none, none], [], M, 0)) = (fun (v1 : Int64) (M : Mem) (a1 : (Int64 × Int32 × Int32)) (a2 : (Int64 × Int32 × Int32)) => some (.inl ((br (!decide (a2.2.2 ≤ a1.2.2)) 24 3 (67)), [some (.ref 19), some (.long v1), none, some (.long a2.1), none, some (.int a2.2.1), some (.int a1.2.2), some (.int a2.2.2), none, none], [], M, 0))) := by rfl
set_option maxRecDepth 100000 in
theorem b_X8_isSidon_4 : (fun (v1 : Int64) (M : Mem) (a1 : (Int64 × Int32 × Int32)) (a2 : (Int64 × Int32 × Int32)) => run C_X8_isSidon 4 (27, [some (.ref 19), some (.long v1), none, some (.long a2.1), none, some (.int a2.2.1), some (.int a1.2.2), some (.int a2.2.2), none, none], [], M, 0)) = (fun (v1 : Int64) (M : Mem) (a1 : (Int64 × Int32 × Int32)) (a2 : (Int64 × Int32 × Int32)) => some (.inl ((br (decide ((d_X8_has v1 a1.2.2) = 0)) 33 3 (58)), [some (.ref 19), some (.long v1), none, some (.long a2.1), none, some (.int a2.2.1), some (.int a1.2.2), some (.int a2.2.2), none, none], [], M, 0))) := by rfl
set_option maxRecDepth 100000 in
theorem b_X8_isSidon_5 : (fun (v1 : Int64) (M : Mem) (a1 : (Int64 × Int32 × Int32)) (a2 : (Int64 × Int32 × Int32)) => run C_X8_isSidon 4 (36, [some (.ref 19), some (.long v1), none, some (.long a2.1), none, some (.int a2.2.1), some (.int a1.2.2), some (.int a2.2.2), none, none], [], M, 0)) = (fun (v1 : Int64) (M : Mem) (a1 : (Int64 × Int32 × Int32)) (a2 : (Int64 × Int32 × Int32)) => some (.inl ((br (decide ((d_X8_has v1 a2.2.2) = 0)) 42 3 (16)), [some (.ref 19), some (.long v1), none, some (.long a2.1), none, some (.int a2.2.1), some (.int a1.2.2), some (.int a2.2.2), none, none], [], M, 0))) := by rfl
set_option maxRecDepth 100000 in
theorem b_X8_isSidon_6 : (fun (v1 : Int64) (M : Mem) (a1 : (Int64 × Int32 × Int32)) (a2 : (Int64 × Int32 × Int32)) => run C_X8_isSidon 9 (58, [some (.ref 19), some (.long v1), none, some (.long a2.1), none, some (.int a2.2.1), some (.int a1.2.2), some (.int a2.2.2), none, none], [], M, 0)) = (fun (v1 : Int64) (M : Mem) (a1 : (Int64 × Int32 × Int32)) (a2 : (Int64 × Int32 × Int32)) => some (.inl ((br (!decide ((lg_cmp (a2.1 &&& (0 : Int64)) (0 : Int64)) = 0)) 69 3 (7)), [some (.ref 19), some (.long v1), none, some (.long a2.1), none, some (.int a2.2.1), some (.int a1.2.2), some (.int a2.2.2), some (.long (0 : Int64)), none], [.int a2.2.1], M, 0))) := by rfl
set_option maxRecDepth 100000 in
theorem b_X8_isSidon_7 : (fun (v1 : Int64) (M : Mem) (a1 : (Int64 × Int32 × Int32)) (a2 : (Int64 × Int32 × Int32)) => run C_X8_isSidon 1 (76, [some (.ref 19), some (.long v1), none, some (.long a2.1), none, some (.int a2.2.1), some (.int a1.2.2), some (.int a2.2.2), some (.long (0 : Int64)), none], [.int a2.2.1], M, 0)) = (fun (v1 : Int64) (M : Mem) (a1 : (Int64 × Int32 × Int32)) (a2 : (Int64 × Int32 × Int32)) => some (.inl (77, [some (.ref 19), some (.long v1), none, some (.long a2.1), none, some (.int a2.2.1), some (.int a1.2.2), some (.int a2.2.2), some (.long (0 : Int64)), none], [.int (0 : Int32), .int a2.2.1], M, 0))) := by rfl
set_option maxRecDepth 100000 in
theorem b_X8_isSidon_8 : (fun (v1 : Int64) (M : Mem) (a1 : (Int64 × Int32 × Int32)) (a2 : (Int64 × Int32 × Int32)) => run C_X8_isSidon 2 (72, [some (.ref 19), some (.long v1), none, some (.long a2.1), none, some (.int a2.2.1), some (.int a1.2.2), some (.int a2.2.2), some (.long (0 : Int64)), none], [.int a2.2.1], M, 0)) = (fun (v1 : Int64) (M : Mem) (a1 : (Int64 × Int32 × Int32)) (a2 : (Int64 × Int32 × Int32)) => some (.inl (77, [some (.ref 19), some (.long v1), none, some (.long a2.1), none, some (.int a2.2.1), some (.int a1.2.2), some (.int a2.2.2), some (.long (0 : Int64)), none], [.int (1 : Int32), .int a2.2.1], M, 0))) := by rfl
theorem m_X8_isSidon_0 (v1 : Int64) (M : Mem) (a1 : (Int64 × Int32 × Int32)) (a2 : (Int64 × Int32 × Int32)) : Rto C_X8_isSidon (58, [some (.ref 19), some (.long v1), none, some (.long a2.1), none, some (.int a2.2.1), some (.int a1.2.2), some (.int a2.2.2), none, none], [], M, 0) (77, [some (.ref 19), some (.long v1), none, some (.long a2.1), none, some (.int a2.2.1), some (.int a1.2.2), some (.int a2.2.2), some (.long (0 : Int64)), none], [.int (if (lg_cmp (a2.1 &&& (0 : Int64)) (0 : Int64)) = 0 then (1 : Int32) else (0 : Int32)), .int a2.2.1], M, 0) := by
  refine Rto.trans (Rto.run 9 (congrFun (congrFun (congrFun (congrFun b_X8_isSidon_6 v1) M) a1) a2)) ?_
  by_cases h : (lg_cmp (a2.1 &&& (0 : Int64)) (0 : Int64)) = 0
  · refine Rto.trans (Rto.brNF (q := 72) h rfl) ?_
    refine Rto.trans (Rto.run 2 (congrFun (congrFun (congrFun (congrFun b_X8_isSidon_8 v1) M) a1) a2)) ?_
    exact Rto.eq (by first | (simp only [if_pos h]; done) | rfl | exact absurd rfl h | (simp; done))
  · refine Rto.trans (Rto.brNT (q := 76) h rfl) ?_
    refine Rto.trans (Rto.run 1 (congrFun (congrFun (congrFun (congrFun b_X8_isSidon_7 v1) M) a1) a2)) ?_
    exact Rto.eq (by first | (simp only [if_neg h]; done) | rfl | exact absurd rfl h | (simp; done))
set_option maxRecDepth 100000 in
theorem b_X8_isSidon_9 : (fun (v1 : Int64) (M : Mem) (a1 : (Int64 × Int32 × Int32)) (a2 : (Int64 × Int32 × Int32)) => run C_X8_isSidon 8 (77, [some (.ref 19), some (.long v1), none, some (.long a2.1), none, some (.int a2.2.1), some (.int a1.2.2), some (.int a2.2.2), some (.long (0 : Int64)), none], [.int (if (lg_cmp (a2.1 &&& (0 : Int64)) (0 : Int64)) = 0 then (1 : Int32) else (0 : Int32)), .int a2.2.1], M, 0)) = (fun (v1 : Int64) (M : Mem) (a1 : (Int64 × Int32 × Int32)) (a2 : (Int64 × Int32 × Int32)) => some (.inl (20, [some (.ref 19), some (.long v1), none, some (.long (a2.1 ||| (0 : Int64))), none, some (.int (a2.2.1 &&& (if (lg_cmp (a2.1 &&& (0 : Int64)) (0 : Int64)) = 0 then (1 : Int32) else (0 : Int32)))), some (.int a1.2.2), some (.int (a2.2.2 + (1 : Int32))), some (.long (0 : Int64)), none], [], M, 0))) := by rfl
set_option maxRecDepth 100000 in
theorem b_X8_isSidon_10 : (fun (v1 : Int64) (M : Mem) (a1 : (Int64 × Int32 × Int32)) (a2 : (Int64 × Int32 × Int32)) => run C_X8_isSidon 4 (45, [some (.ref 19), some (.long v1), none, some (.long a2.1), none, some (.int a2.2.1), some (.int a1.2.2), some (.int a2.2.2), none, none], [], M, 0)) = (fun (v1 : Int64) (M : Mem) (a1 : (Int64 × Int32 × Int32)) (a2 : (Int64 × Int32 × Int32)) => some (.inl (51, [some (.ref 19), some (.long v1), none, some (.long a2.1), none, some (.int a2.2.1), some (.int a1.2.2), some (.int a2.2.2), none, none], [.int a2.2.2, .int a1.2.2, .ref 19, .long (1 : Int64)], M, 0))) := by rfl
set_option maxRecDepth 100000 in
theorem b_X8_isSidon_11 : (fun (v1 : Int64) (M : Mem) (a1 : (Int64 × Int32 × Int32)) (a2 : (Int64 × Int32 × Int32)) (w1 : Int32) => run C_X8_isSidon 10 (54, [some (.ref 19), some (.long v1), none, some (.long a2.1), none, some (.int a2.2.1), some (.int a1.2.2), some (.int a2.2.2), none, none], [.int w1, .long (1 : Int64)], M, 0)) = (fun (v1 : Int64) (M : Mem) (a1 : (Int64 × Int32 × Int32)) (a2 : (Int64 × Int32 × Int32)) (w1 : Int32) => some (.inl ((br (!decide ((lg_cmp (a2.1 &&& (jshl (1 : Int64) w1)) (0 : Int64)) = 0)) 69 3 (7)), [some (.ref 19), some (.long v1), none, some (.long a2.1), none, some (.int a2.2.1), some (.int a1.2.2), some (.int a2.2.2), some (.long (jshl (1 : Int64) w1)), none], [.int a2.2.1], M, 0))) := by rfl
set_option maxRecDepth 100000 in
theorem b_X8_isSidon_12 : (fun (v1 : Int64) (M : Mem) (a1 : (Int64 × Int32 × Int32)) (a2 : (Int64 × Int32 × Int32)) (w1 : Int32) => run C_X8_isSidon 1 (76, [some (.ref 19), some (.long v1), none, some (.long a2.1), none, some (.int a2.2.1), some (.int a1.2.2), some (.int a2.2.2), some (.long (jshl (1 : Int64) w1)), none], [.int a2.2.1], M, 0)) = (fun (v1 : Int64) (M : Mem) (a1 : (Int64 × Int32 × Int32)) (a2 : (Int64 × Int32 × Int32)) (w1 : Int32) => some (.inl (77, [some (.ref 19), some (.long v1), none, some (.long a2.1), none, some (.int a2.2.1), some (.int a1.2.2), some (.int a2.2.2), some (.long (jshl (1 : Int64) w1)), none], [.int (0 : Int32), .int a2.2.1], M, 0))) := by rfl
set_option maxRecDepth 100000 in
theorem b_X8_isSidon_13 : (fun (v1 : Int64) (M : Mem) (a1 : (Int64 × Int32 × Int32)) (a2 : (Int64 × Int32 × Int32)) (w1 : Int32) => run C_X8_isSidon 2 (72, [some (.ref 19), some (.long v1), none, some (.long a2.1), none, some (.int a2.2.1), some (.int a1.2.2), some (.int a2.2.2), some (.long (jshl (1 : Int64) w1)), none], [.int a2.2.1], M, 0)) = (fun (v1 : Int64) (M : Mem) (a1 : (Int64 × Int32 × Int32)) (a2 : (Int64 × Int32 × Int32)) (w1 : Int32) => some (.inl (77, [some (.ref 19), some (.long v1), none, some (.long a2.1), none, some (.int a2.2.1), some (.int a1.2.2), some (.int a2.2.2), some (.long (jshl (1 : Int64) w1)), none], [.int (1 : Int32), .int a2.2.1], M, 0))) := by rfl
theorem m_X8_isSidon_1 (v1 : Int64) (M : Mem) (a1 : (Int64 × Int32 × Int32)) (a2 : (Int64 × Int32 × Int32)) (w1 : Int32) : Rto C_X8_isSidon (54, [some (.ref 19), some (.long v1), none, some (.long a2.1), none, some (.int a2.2.1), some (.int a1.2.2), some (.int a2.2.2), none, none], [.int w1, .long (1 : Int64)], M, 0) (77, [some (.ref 19), some (.long v1), none, some (.long a2.1), none, some (.int a2.2.1), some (.int a1.2.2), some (.int a2.2.2), some (.long (jshl (1 : Int64) w1)), none], [.int (if (lg_cmp (a2.1 &&& (jshl (1 : Int64) w1)) (0 : Int64)) = 0 then (1 : Int32) else (0 : Int32)), .int a2.2.1], M, 0) := by
  refine Rto.trans (Rto.run 10 (congrFun (congrFun (congrFun (congrFun (congrFun b_X8_isSidon_11 v1) M) a1) a2) w1)) ?_
  by_cases h : (lg_cmp (a2.1 &&& (jshl (1 : Int64) w1)) (0 : Int64)) = 0
  · refine Rto.trans (Rto.brNF (q := 72) h rfl) ?_
    refine Rto.trans (Rto.run 2 (congrFun (congrFun (congrFun (congrFun (congrFun b_X8_isSidon_13 v1) M) a1) a2) w1)) ?_
    exact Rto.eq (by first | (simp only [if_pos h]; done) | rfl | exact absurd rfl h | (simp; done))
  · refine Rto.trans (Rto.brNT (q := 76) h rfl) ?_
    refine Rto.trans (Rto.run 1 (congrFun (congrFun (congrFun (congrFun (congrFun b_X8_isSidon_12 v1) M) a1) a2) w1)) ?_
    exact Rto.eq (by first | (simp only [if_neg h]; done) | rfl | exact absurd rfl h | (simp; done))
set_option maxRecDepth 100000 in
theorem b_X8_isSidon_14 : (fun (v1 : Int64) (M : Mem) (a1 : (Int64 × Int32 × Int32)) (a2 : (Int64 × Int32 × Int32)) (w1 : Int32) => run C_X8_isSidon 8 (77, [some (.ref 19), some (.long v1), none, some (.long a2.1), none, some (.int a2.2.1), some (.int a1.2.2), some (.int a2.2.2), some (.long (jshl (1 : Int64) w1)), none], [.int (if (lg_cmp (a2.1 &&& (jshl (1 : Int64) w1)) (0 : Int64)) = 0 then (1 : Int32) else (0 : Int32)), .int a2.2.1], M, 0)) = (fun (v1 : Int64) (M : Mem) (a1 : (Int64 × Int32 × Int32)) (a2 : (Int64 × Int32 × Int32)) (w1 : Int32) => some (.inl (20, [some (.ref 19), some (.long v1), none, some (.long (a2.1 ||| (jshl (1 : Int64) w1))), none, some (.int (a2.2.1 &&& (if (lg_cmp (a2.1 &&& (jshl (1 : Int64) w1)) (0 : Int64)) = 0 then (1 : Int32) else (0 : Int32)))), some (.int a1.2.2), some (.int (a2.2.2 + (1 : Int32))), some (.long (jshl (1 : Int64) w1)), none], [], M, 0))) := by rfl
def g_X8_isSidon_2 (v1 : Int64) (M : Mem) (a1 : (Int64 × Int32 × Int32)) : Int64 × Int32 × Int32 → Option ((Int64 × Int32 × Int32) ⊕ ((Int64 × Int32 × Int32) ⊕ Int32)) := fun (a2 : Int64 × Int32 × Int32) => (if a2.2.2 ≤ a1.2.2 then (if (d_X8_has v1 a1.2.2) = 0 then some (.inr (.inl (a2.1, a2.2.1, a2.2.2))) else (if (d_X8_has v1 a2.2.2) = 0 then some (.inl ((a2.1 ||| (0 : Int64)), (a2.2.1 &&& (if (lg_cmp (a2.1 &&& (0 : Int64)) (0 : Int64)) = 0 then (1 : Int32) else (0 : Int32))), (a2.2.2 + (1 : Int32)))) else ((d_X8_added a1.2.2 a2.2.2 M).bind fun w1 => some (.inl ((a2.1 ||| (jshl (1 : Int64) w1)), (a2.2.1 &&& (if (lg_cmp (a2.1 &&& (jshl (1 : Int64) w1)) (0 : Int64)) = 0 then (1 : Int32) else (0 : Int32))), (a2.2.2 + (1 : Int32))))))) else some (.inr (.inl (a2.1, a2.2.1, a2.2.2))))
set_option maxHeartbeats 2000000 in
theorem l_X8_isSidon_2 (v1 : Int64) (M : Mem) (a1 : (Int64 × Int32 × Int32)) : ∀ a2 : Int64 × Int32 × Int32, RG C_X8_isSidon ((fun (a2 : Int64 × Int32 × Int32) => (20, [some (.ref 19), some (.long v1), none, some (.long a2.1), none, some (.int a2.2.1), some (.int a1.2.2), some (.int a2.2.2), none, none], [], M, 0)) a2) (g_X8_isSidon_2 v1 M a1 a2) (lpP (fun (a2 : Int64 × Int32 × Int32) => (20, [some (.ref 19), some (.long v1), none, some (.long a2.1), none, some (.int a2.2.1), some (.int a1.2.2), some (.int a2.2.2), none, none], [], M, 0)) (fun (a2 : Int64 × Int32 × Int32) => (91, [some (.ref 19), some (.long v1), none, some (.long a2.1), none, some (.int a2.2.1), some (.int a1.2.2), some (.int a2.2.2), none, none], [], M, 0)) (fun (v : Int32) => (.inl (some (.int v)), M))) := by
  intro a2
  unfold g_X8_isSidon_2
  show RG C_X8_isSidon (20, [some (.ref 19), some (.long v1), none, some (.long a2.1), none, some (.int a2.2.1), some (.int a1.2.2), some (.int a2.2.2), none, none], [], M, 0) _ _
  refine RG.st 3 (congrFun (congrFun (congrFun (congrFun b_X8_isSidon_3 v1) M) a1) a2) ?_
  refine RG.ite (fun h2 => RG.brNF (q := 27) h2 rfl ?_) (fun h2 => RG.brNT (q := 91) h2 rfl ?_)
  · refine RG.st 4 (congrFun (congrFun (congrFun (congrFun b_X8_isSidon_4 v1) M) a1) a2) ?_
    refine RG.ite (fun h3 => RG.brT (q := 91) h3 rfl ?_) (fun h3 => RG.brF (q := 36) h3 rfl ?_)
    · exact RG.to rfl (Rto.refl _)
    · refine RG.st 4 (congrFun (congrFun (congrFun (congrFun b_X8_isSidon_5 v1) M) a1) a2) ?_
      refine RG.ite (fun h4 => RG.brT (q := 58) h4 rfl ?_) (fun h4 => RG.brF (q := 45) h4 rfl ?_)
      · refine RG.step (m_X8_isSidon_0 v1 M a1 a2) ?_
        refine RG.st 8 (congrFun (congrFun (congrFun (congrFun b_X8_isSidon_9 v1) M) a1) a2) ?_
        exact RG.to rfl (Rto.fgt [8] rfl)
      · refine RG.st 4 (congrFun (congrFun (congrFun (congrFun b_X8_isSidon_10 v1) M) a1) a2) ?_
        refine RG.bind (fun w1 h5 => RG.st 1 (run_callV (v := some (.int w1)) rfl rfl rfl rfl rfl (bindI h5)) ?_)
        show RG C_X8_isSidon (54, [some (.ref 19), some (.long v1), none, some (.long a2.1), none, some (.int a2.2.1), some (.int a1.2.2), some (.int a2.2.2), none, none], [.int w1, .long (1 : Int64)], M, 0) _ _
        refine RG.step (m_X8_isSidon_1 v1 M a1 a2 w1) ?_
        refine RG.st 8 (congrFun (congrFun (congrFun (congrFun (congrFun b_X8_isSidon_14 v1) M) a1) a2) w1) ?_
        exact RG.to rfl (Rto.fgt [8] rfl)
  · exact RG.to rfl (Rto.refl _)
set_option maxRecDepth 100000 in
theorem b_X8_isSidon_15 : (fun (v1 : Int64) (M : Mem) (a1 : (Int64 × Int32 × Int32)) (a3 : (Int64 × Int32 × Int32)) => run C_X8_isSidon 2 (91, [some (.ref 19), some (.long v1), none, some (.long a3.1), none, some (.int a3.2.1), some (.int a1.2.2), some (.int a3.2.2), none, none], [], M, 0)) = (fun (v1 : Int64) (M : Mem) (a1 : (Int64 × Int32 × Int32)) (a3 : (Int64 × Int32 × Int32)) => some (.inl (8, [some (.ref 19), some (.long v1), none, some (.long a3.1), none, some (.int a3.2.1), some (.int (a1.2.2 + (1 : Int32))), some (.int a3.2.2), none, none], [], M, 0))) := by rfl
def g_X8_isSidon_1 (v1 : Int64) (M : Mem) : Int64 × Int32 × Int32 → Option ((Int64 × Int32 × Int32) ⊕ ((Int64 × Int32 × Int32) ⊕ Int32)) := fun (a1 : Int64 × Int32 × Int32) => (if a1.2.2 < (d_X8_size M) then (onIt (iter (g_X8_isSidon_2 v1 M a1) 20000 (a1.1, a1.2.1, (0 : Int32))) (fun (a3 : Int64 × Int32 × Int32) => some (.inl (a3.1, a3.2.1, (a1.2.2 + (1 : Int32))))) (fun r => some (.inr (.inr r)))) else some (.inr (.inl (a1.1, a1.2.1, a1.2.2))))
set_option maxHeartbeats 2000000 in
theorem l_X8_isSidon_1 (v1 : Int64) (M : Mem) : ∀ a1 : Int64 × Int32 × Int32, RG C_X8_isSidon ((fun (a1 : Int64 × Int32 × Int32) => (8, [some (.ref 19), some (.long v1), none, some (.long a1.1), none, some (.int a1.2.1), some (.int a1.2.2), none, none, none], [], M, 0)) a1) (g_X8_isSidon_1 v1 M a1) (lpP (fun (a1 : Int64 × Int32 × Int32) => (8, [some (.ref 19), some (.long v1), none, some (.long a1.1), none, some (.int a1.2.1), some (.int a1.2.2), none, none, none], [], M, 0)) (fun (a1 : Int64 × Int32 × Int32) => (97, [some (.ref 19), some (.long v1), none, some (.long a1.1), none, some (.int a1.2.1), some (.int a1.2.2), none, none, none], [], M, 0)) (fun (v : Int32) => (.inl (some (.int v)), M))) := by
  intro a1
  unfold g_X8_isSidon_1
  show RG C_X8_isSidon (8, [some (.ref 19), some (.long v1), none, some (.long a1.1), none, some (.int a1.2.1), some (.int a1.2.2), none, none, none], [], M, 0) _ _
  refine RG.st 4 (congrFun (congrFun (congrFun b_X8_isSidon_1 v1) M) a1) ?_
  refine RG.ite (fun h1 => RG.brNF (q := 17) h1 rfl ?_) (fun h1 => RG.brNT (q := 97) h1 rfl ?_)
  · refine RG.st 2 (congrFun (congrFun (congrFun b_X8_isSidon_2 v1) M) a1) ?_
    refine RG.loop (hd := (fun (a2 : Int64 × Int32 × Int32) => (20, [some (.ref 19), some (.long v1), none, some (.long a2.1), none, some (.int a2.2.1), some (.int a1.2.2), some (.int a2.2.2), none, none], [], M, 0))) (ex := (fun (a2 : Int64 × Int32 × Int32) => (91, [some (.ref 19), some (.long v1), none, some (.long a2.1), none, some (.int a2.2.1), some (.int a1.2.2), some (.int a2.2.2), none, none], [], M, 0))) (rt := (fun (v : Int32) => (.inl (some (.int v)), M))) (l_X8_isSidon_2 v1 M a1) (fun a3 => ?_) (fun r v h => by cases h; rfl)
    show RG C_X8_isSidon (91, [some (.ref 19), some (.long v1), none, some (.long a3.1), none, some (.int a3.2.1), some (.int a1.2.2), some (.int a3.2.2), none, none], [], M, 0) _ _
    refine RG.st 2 (congrFun (congrFun (congrFun (congrFun b_X8_isSidon_15 v1) M) a1) a3) ?_
    exact RG.to rfl (Rto.fgt [7] rfl)
  · exact RG.to rfl (Rto.refl _)
set_option maxRecDepth 100000 in
theorem b_X8_isSidon_16 : (fun (v1 : Int64) (M : Mem) (a4 : (Int64 × Int32 × Int32)) => run C_X8_isSidon 2 (97, [some (.ref 19), some (.long v1), none, some (.long a4.1), none, some (.int a4.2.1), some (.int a4.2.2), none, none, none], [], M, 0)) = (fun (v1 : Int64) (M : Mem) (a4 : (Int64 × Int32 × Int32)) => some (.inr (.inl (some (.int (a4.2.1 &&& 1))), M, 0))) := by rfl
def d_X8_isSidon (v1 : Int64) (M : Mem) : Option Int32 := (onIt (iter (g_X8_isSidon_1 v1 M) 20000 ((0 : Int64), (1 : Int32), (0 : Int32))) (fun (a4 : Int64 × Int32 × Int32) => some (a4.2.1 &&& 1)) (fun r => some r))
set_option maxHeartbeats 2000000 in
theorem r_X8_isSidon (v1 : Int64) (M : Mem) : RG C_X8_isSidon (0, [some (.ref 19), some (.long v1), none, none, none, none, none, none, none, none], [], M, 0) (d_X8_isSidon v1 M) (fun v => .inr (.inl (some (.int v)), M)) := by
  unfold d_X8_isSidon
  refine RG.st 6 (congrFun (congrFun b_X8_isSidon_0 v1) M) ?_
  refine RG.loop (hd := (fun (a1 : Int64 × Int32 × Int32) => (8, [some (.ref 19), some (.long v1), none, some (.long a1.1), none, some (.int a1.2.1), some (.int a1.2.2), none, none, none], [], M, 0))) (ex := (fun (a1 : Int64 × Int32 × Int32) => (97, [some (.ref 19), some (.long v1), none, some (.long a1.1), none, some (.int a1.2.1), some (.int a1.2.2), none, none, none], [], M, 0))) (rt := (fun (v : Int32) => (.inl (some (.int v)), M))) (l_X8_isSidon_1 v1 M) (fun a4 => ?_) (fun r v h => by cases h; rfl)
  show RG C_X8_isSidon (97, [some (.ref 19), some (.long v1), none, some (.long a4.1), none, some (.int a4.2.1), some (.int a4.2.2), none, none, none], [], M, 0) _ _
  exact RG.fin rfl (Rend.run 2 (congrFun (congrFun (congrFun b_X8_isSidon_16 v1) M) a4))
def fn_X8_isSidon : Fn := fun av M => match av with
  | [.ref r0, .long v1] => bif Nat.beq r0 19 then (d_X8_isSidon v1 M).bind fun v => some (.inl (some (.int v)), M) else (none)
  | _ => none
theorem cfg_X8_isSidon : CfgOK RX8 cX8_isSidon (C_X8_isSidon) 4 := ⟨tk_X8_isSidon, csF_nd, flk_X8, (List.forall_mem_cons.mpr ⟨Or.inr ⟨yX8_size, cX8_size, 1, (some .int), none, 1, ok_X8_size, by decide, by decide, w_code_SumsetryModel_size___I, w_initialized_SumsetryModel, ⟨by decide, by decide⟩, Or.inr (Or.inr ⟨rfl, rfl, show (parseMethodDescriptor yX8_size.desc).map (fun d => d.parameters.length + 1) = some 1 from by decide +kernel, w_methodLink_SumsetryModel_49, w_instanceMethod_SumsetryModel_size___I, w_selects_SumsetryModel_size___I, ⟨_, rfl, rfl⟩⟩)⟩,
    List.forall_mem_cons.mpr ⟨Or.inr ⟨yX8_has, cX8_has, 3, (some .boolean), none, 1, ok_X8_has, by decide, by decide, w_code_SumsetryModel_has__JI_Z, w_initialized_SumsetryModel, ⟨by decide, by decide⟩, Or.inl ⟨rfl, show (parseMethodDescriptor yX8_has.desc).map (fun d => d.parameters.length) = some 2 from by decide +kernel, w_methodLink_SumsetryModel_60, w_static_SumsetryModel_has__JI_Z⟩⟩,
    List.forall_mem_cons.mpr ⟨Or.inr ⟨yX8_added, cX8_added, 3, (some .int), none, 3, ok_X8_added, by decide, by decide, w_code_SumsetryModel_added__II_I, w_initialized_SumsetryModel, ⟨by decide, by decide⟩, Or.inr (Or.inr ⟨rfl, rfl, show (parseMethodDescriptor yX8_added.desc).map (fun d => d.parameters.length + 1) = some 3 from by decide +kernel, w_methodLink_SumsetryModel_128, w_instanceMethod_SumsetryModel_added__II_I, w_selects_SumsetryModel_added__II_I, ⟨_, rfl, rfl⟩⟩)⟩, fun _ h => absurd h List.not_mem_nil⟩⟩⟩), ink_X8, lgk_X8, fun e h => absurd h List.not_mem_nil, (fun h hh => absurd hh List.not_mem_nil)⟩
theorem ok_X8_isSidon : OkM csF yX8_isSidon (Cond.code yX8_isSidon cX8_isSidon 10 (some .boolean)) 4 0 fn_X8_isSidon :=
  OkM_of (own := RX8) (C := C_X8_isSidon) (by decide +kernel) rfl (cfg_X8_isSidon) rfl rfl rfl rfl (by
    intro av M o M' h
    unfold fn_X8_isSidon at h
    split at h
    · rename_i r0 v1
      rcases bif_cs h with ⟨hb, h⟩ | ⟨-, h⟩
      · skip
        have hr0 := hb
        obtain rfl := Nat.eq_of_beq_eq_true hr0
        obtain ⟨w, hw, h⟩ := bind_cs h
        cases h
        exact ⟨rfl, Nat.le_of_ble_eq_true rfl, (r_X8_isSidon v1 M) w hw⟩
      · cases h
    · cases h)
