/-! THE LAW'S CASES 21 to 30 -/
def t_law_21 : List (Nat × Instr × Nat) := [(1700, .aload_n 1, 1), (1701, .aload_n 0, 1), (1702, .iload 4, 2), (1704, .iconst 1, 1), (1705, .iadd, 1), (1706, .iaload, 1), (1707, .aload_n 0, 1), (1708, .iload 4, 2), (1710, .iconst 2, 1), (1711, .iadd, 1), (1712, .iaload, 1), (1713, .aload_n 3, 1), (1714, .invokestatic 195, 3), (1717, .istore 5, 2), (1719, .aload_n 2, 1), (1720, .aload_n 0, 1), (1721, .iload 4, 2), (1723, .iconst 1, 1), (1724, .iadd, 1), (1725, .iaload, 1), (1726, .aload_n 0, 1), (1727, .iload 4, 2), (1729, .iconst 2, 1), (1730, .iadd, 1), (1731, .iaload, 1), (1732, .invokevirtual 197, 3), (1735, .lstore 6, 2), (1737, .aload_n 2, 1), (1738, .invokevirtual 125, 3), (1741, .iload 5, 2), (1743, .if_icmp .eq 5, 3), (1746, .iconst 0, 1), (1747, .ireturn, 1), (1748, .iload 5, 2), (1750, .ifCond .ne 14, 3), (1753, .aload_n 3, 1), (1754, .iconst 0, 1), (1755, .laload, 1), (1756, .lload 6, 2), (1758, .lcmp, 1), (1759, .ifCond .eq 5, 3), (1762, .iconst 0, 1), (1763, .ireturn, 1), (1764, .goto 480, 3), (2244, .iinc 4 5, 3), (2247, .goto (-2224), 3)]
theorem tk_law_21 : ∀ x ∈ t_law_21, decode code x.1 = .ok x.2 := by decide +kernel
def C_law_21 (L : Nat) (xs : Nat → Int32) : Cfg := (t_law_21, csF, fl_L, [(125, 2, 6, 1, 0, fn_X8_thrown), (195, 0, 0, 4, 3, fn_L_greatestAnew), (197, 2, 6, 3, 0, fn_X8_greatestAnew)], in_L, lg_L, [], [], some (L, xs), some .boolean, 8)
theorem lok_21 (L : Nat) (xs : Nat → Int32) : LawC L xs (C_law_21 L xs) := ⟨⟨tk_law_21, csF_nd, flk_L, (List.forall_mem_cons.mpr ⟨cl_125, List.forall_mem_cons.mpr ⟨cl_195, List.forall_mem_cons.mpr ⟨cl_197, fun _ h => absurd h List.not_mem_nil⟩⟩⟩), ink_L, lgk_L, fun e h => absurd h List.not_mem_nil, fun h hh => absurd hh List.not_mem_nil⟩, rfl, rfl, rfl, rfl, rfl⟩
set_option maxRecDepth 100000 in
theorem bl_21_0 : (fun (L : Nat) (xs : Nat → Int32) (i : Int32) (M : Mem) => run (C_law_21 L xs) 5 (1700, [some (.ref 30), some (.ref 0), some (.ref 19), some (.ref 29), some (.int i), none, none, none], [], M, 0)) = (fun (L : Nat) (xs : Nat → Int32) (i : Int32) (M : Mem) => some (.inl (1706, [some (.ref 30), some (.ref 0), some (.ref 19), some (.ref 29), some (.int i), none, none, none], [.int (i + (1 : Int32)), .ref 30, .ref 0], M, 0))) := by rfl
set_option maxRecDepth 100000 in
theorem bl_21_1 : (fun (L : Nat) (xs : Nat → Int32) (i : Int32) (M : Mem) => run (C_law_21 L xs) 4 (1707, [some (.ref 30), some (.ref 0), some (.ref 19), some (.ref 29), some (.int i), none, none, none], [.int (xs (ix (i + (1 : Int32)))), .ref 0], M, 0)) = (fun (L : Nat) (xs : Nat → Int32) (i : Int32) (M : Mem) => some (.inl (1712, [some (.ref 30), some (.ref 0), some (.ref 19), some (.ref 29), some (.int i), none, none, none], [.int (i + (2 : Int32)), .ref 30, .int (xs (ix (i + (1 : Int32)))), .ref 0], M, 0))) := by rfl
set_option maxRecDepth 100000 in
theorem bl_21_2 : (fun (L : Nat) (xs : Nat → Int32) (i : Int32) (M : Mem) => run (C_law_21 L xs) 1 (1713, [some (.ref 30), some (.ref 0), some (.ref 19), some (.ref 29), some (.int i), none, none, none], [.int (xs (ix (i + (2 : Int32)))), .int (xs (ix (i + (1 : Int32)))), .ref 0], M, 0)) = (fun (L : Nat) (xs : Nat → Int32) (i : Int32) (M : Mem) => some (.inl (1714, [some (.ref 30), some (.ref 0), some (.ref 19), some (.ref 29), some (.int i), none, none, none], [.ref 29, .int (xs (ix (i + (2 : Int32)))), .int (xs (ix (i + (1 : Int32)))), .ref 0], M, 0))) := by rfl
set_option maxRecDepth 100000 in
theorem bl_21_3 : (fun (L : Nat) (xs : Nat → Int32) (i : Int32) (kk : Int32) (M1 : Mem) => run (C_law_21 L xs) 6 (1717, [some (.ref 30), some (.ref 0), some (.ref 19), some (.ref 29), some (.int i), none, none, none], [.int kk], M1, 3)) = (fun (L : Nat) (xs : Nat → Int32) (i : Int32) (kk : Int32) (M1 : Mem) => some (.inl (1725, [some (.ref 30), some (.ref 0), some (.ref 19), some (.ref 29), some (.int i), some (.int kk), none, none], [.int (i + (1 : Int32)), .ref 30, .ref 19], M1, 3))) := by rfl
set_option maxRecDepth 100000 in
theorem bl_21_4 : (fun (L : Nat) (xs : Nat → Int32) (i : Int32) (kk : Int32) (M1 : Mem) => run (C_law_21 L xs) 4 (1726, [some (.ref 30), some (.ref 0), some (.ref 19), some (.ref 29), some (.int i), some (.int kk), none, none], [.int (xs (ix (i + (1 : Int32)))), .ref 19], M1, 3)) = (fun (L : Nat) (xs : Nat → Int32) (i : Int32) (kk : Int32) (M1 : Mem) => some (.inl (1731, [some (.ref 30), some (.ref 0), some (.ref 19), some (.ref 29), some (.int i), some (.int kk), none, none], [.int (i + (2 : Int32)), .ref 30, .int (xs (ix (i + (1 : Int32)))), .ref 19], M1, 3))) := by rfl
set_option maxRecDepth 100000 in
theorem bl_21_5 : (fun (L : Nat) (xs : Nat → Int32) (i : Int32) (kk : Int32) (bl : Int64) (M2 : Mem) => run (C_law_21 L xs) 4 (1735, [some (.ref 30), some (.ref 0), some (.ref 19), some (.ref 29), some (.int i), some (.int kk), none, none], [.long bl], M2, 3)) = (fun (L : Nat) (xs : Nat → Int32) (i : Int32) (kk : Int32) (bl : Int64) (M2 : Mem) => some (.inl (1743, [some (.ref 30), some (.ref 0), some (.ref 19), some (.ref 29), some (.int i), some (.int kk), some (.long bl), none], [.int kk, .int (M2.1 19 15)], M2, 3))) := by rfl
set_option maxRecDepth 100000 in
theorem bl_21_6 : (fun (L : Nat) (xs : Nat → Int32) (i : Int32) (kk : Int32) (bl : Int64) (M2 : Mem) => run (C_law_21 L xs) 1 (1743, [some (.ref 30), some (.ref 0), some (.ref 19), some (.ref 29), some (.int i), some (.int kk), some (.long bl), none], [.int kk, .int (M2.1 19 15)], M2, 3)) = (fun (L : Nat) (xs : Nat → Int32) (i : Int32) (kk : Int32) (bl : Int64) (M2 : Mem) => some (.inl ((br (decide ((M2.1 19 15) = kk)) 1743 3 (5)), [some (.ref 30), some (.ref 0), some (.ref 19), some (.ref 29), some (.int i), some (.int kk), some (.long bl), none], [], M2, 3))) := by rfl
set_option maxRecDepth 100000 in
theorem bl_21_7 : (fun (L : Nat) (xs : Nat → Int32) (i : Int32) (kk : Int32) (bl : Int64) (M2 : Mem) => run (C_law_21 L xs) 1 (1748, [some (.ref 30), some (.ref 0), some (.ref 19), some (.ref 29), some (.int i), some (.int kk), some (.long bl), none], [], M2, 3)) = (fun (L : Nat) (xs : Nat → Int32) (i : Int32) (kk : Int32) (bl : Int64) (M2 : Mem) => some (.inl (1750, [some (.ref 30), some (.ref 0), some (.ref 19), some (.ref 29), some (.int i), some (.int kk), some (.long bl), none], [.int kk], M2, 3))) := by rfl
set_option maxRecDepth 100000 in
theorem bl_21_8 : (fun (L : Nat) (xs : Nat → Int32) (i : Int32) (kk : Int32) (bl : Int64) (M2 : Mem) => run (C_law_21 L xs) 1 (1750, [some (.ref 30), some (.ref 0), some (.ref 19), some (.ref 29), some (.int i), some (.int kk), some (.long bl), none], [.int kk], M2, 3)) = (fun (L : Nat) (xs : Nat → Int32) (i : Int32) (kk : Int32) (bl : Int64) (M2 : Mem) => some (.inl ((br (!decide (kk = 0)) 1750 3 (14)), [some (.ref 30), some (.ref 0), some (.ref 19), some (.ref 29), some (.int i), some (.int kk), some (.long bl), none], [], M2, 3))) := by rfl
set_option maxRecDepth 100000 in
theorem bl_21_9 : (fun (L : Nat) (xs : Nat → Int32) (i : Int32) (kk : Int32) (bl : Int64) (M2 : Mem) => run (C_law_21 L xs) 2 (1753, [some (.ref 30), some (.ref 0), some (.ref 19), some (.ref 29), some (.int i), some (.int kk), some (.long bl), none], [], M2, 3)) = (fun (L : Nat) (xs : Nat → Int32) (i : Int32) (kk : Int32) (bl : Int64) (M2 : Mem) => some (.inl (1755, [some (.ref 30), some (.ref 0), some (.ref 19), some (.ref 29), some (.int i), some (.int kk), some (.long bl), none], [.int (0 : Int32), .ref 29], M2, 3))) := by rfl
set_option maxRecDepth 100000 in
theorem bl_21_10 : (fun (L : Nat) (xs : Nat → Int32) (i : Int32) (kk : Int32) (bl : Int64) (M2 : Mem) => run (C_law_21 L xs) 2 (1756, [some (.ref 30), some (.ref 0), some (.ref 19), some (.ref 29), some (.int i), some (.int kk), some (.long bl), none], [.long (M2.2 29 0)], M2, 3)) = (fun (L : Nat) (xs : Nat → Int32) (i : Int32) (kk : Int32) (bl : Int64) (M2 : Mem) => some (.inl (1759, [some (.ref 30), some (.ref 0), some (.ref 19), some (.ref 29), some (.int i), some (.int kk), some (.long bl), none], [.int (lg_cmp (M2.2 29 0) bl)], M2, 3))) := by rfl
set_option maxRecDepth 100000 in
theorem bl_21_11 : (fun (L : Nat) (xs : Nat → Int32) (i : Int32) (kk : Int32) (bl : Int64) (M2 : Mem) => run (C_law_21 L xs) 1 (1759, [some (.ref 30), some (.ref 0), some (.ref 19), some (.ref 29), some (.int i), some (.int kk), some (.long bl), none], [.int (lg_cmp (M2.2 29 0) bl)], M2, 3)) = (fun (L : Nat) (xs : Nat → Int32) (i : Int32) (kk : Int32) (bl : Int64) (M2 : Mem) => some (.inl ((br (decide ((lg_cmp (M2.2 29 0) bl) = 0)) 1759 3 (5)), [some (.ref 30), some (.ref 0), some (.ref 19), some (.ref 29), some (.int i), some (.int kk), some (.long bl), none], [], M2, 3))) := by rfl
set_option maxRecDepth 100000 in
theorem bl_21_12 : (fun (L : Nat) (xs : Nat → Int32) (i : Int32) (kk : Int32) (bl : Int64) (M2 : Mem) => run (C_law_21 L xs) 1 (1764, [some (.ref 30), some (.ref 0), some (.ref 19), some (.ref 29), some (.int i), some (.int kk), some (.long bl), none], [], M2, 3)) = (fun (L : Nat) (xs : Nat → Int32) (i : Int32) (kk : Int32) (bl : Int64) (M2 : Mem) => some (.inl (2244, [some (.ref 30), some (.ref 0), some (.ref 19), some (.ref 29), some (.int i), some (.int kk), some (.long bl), none], [], M2, 3))) := by rfl
set_option maxRecDepth 100000 in
theorem bl_21_13 : (fun (L : Nat) (xs : Nat → Int32) (i : Int32) (kk : Int32) (bl : Int64) (M2 : Mem) => run (C_law_21 L xs) 2 (2244, [some (.ref 30), some (.ref 0), some (.ref 19), some (.ref 29), some (.int i), some (.int kk), some (.long bl), none], [], M2, 3)) = (fun (L : Nat) (xs : Nat → Int32) (i : Int32) (kk : Int32) (bl : Int64) (M2 : Mem) => some (.inl (23, [some (.ref 30), some (.ref 0), some (.ref 19), some (.ref 29), some (.int (i + (5 : Int32))), some (.int kk), some (.long bl), none], [], M2, 3))) := by rfl
set_option maxRecDepth 100000 in
theorem bl_21_14 : (fun (L : Nat) (xs : Nat → Int32) (i : Int32) (kk : Int32) (bl : Int64) (M2 : Mem) => run (C_law_21 L xs) 1 (1764, [some (.ref 30), some (.ref 0), some (.ref 19), some (.ref 29), some (.int i), some (.int kk), some (.long bl), none], [], M2, 3)) = (fun (L : Nat) (xs : Nat → Int32) (i : Int32) (kk : Int32) (bl : Int64) (M2 : Mem) => some (.inl (2244, [some (.ref 30), some (.ref 0), some (.ref 19), some (.ref 29), some (.int i), some (.int kk), some (.long bl), none], [], M2, 3))) := by rfl
set_option maxRecDepth 100000 in
theorem bl_21_15 : (fun (L : Nat) (xs : Nat → Int32) (i : Int32) (kk : Int32) (bl : Int64) (M2 : Mem) => run (C_law_21 L xs) 2 (2244, [some (.ref 30), some (.ref 0), some (.ref 19), some (.ref 29), some (.int i), some (.int kk), some (.long bl), none], [], M2, 3)) = (fun (L : Nat) (xs : Nat → Int32) (i : Int32) (kk : Int32) (bl : Int64) (M2 : Mem) => some (.inl (23, [some (.ref 30), some (.ref 0), some (.ref 19), some (.ref 29), some (.int (i + (5 : Int32))), some (.int kk), some (.long bl), none], [], M2, 3))) := by rfl
theorem cz_21 {L : Nat} {xs : Nat → Int32} {i : Int32} {M : Mem} (h : Inv M) (i1 : inb (i + (1 : Int32)) L = true) (i2 : inb (i + (2 : Int32)) L = true) : ∃ (M' : Mem) (k : Nat), k ≤ 8 ∧ Inv M' ∧ Rto (C_law_21 L xs) (1700, loL i, [], M, 0) (23, loL (i + (5 : Int32)), [], M', k) := by
  obtain ⟨kk, bl, M1, M2, hF, hG, ht, ho, hI⟩ := cs_greatestAnew h (xs (ix (i + (1 : Int32)))) (xs (ix (i + (2 : Int32))))
  refine ⟨M2, 3, by decide, hI, ?_⟩
  refine Rto.trans (Rto.run 5 (congrFun (congrFun (congrFun (congrFun bl_21_0 L) xs) i) M)) ?_
  refine Rto.trans (Rto.run 1 (run_ld rfl rfl rfl i1)) ?_
  show Rto (C_law_21 L xs) (1707, [some (.ref 30), some (.ref 0), some (.ref 19), some (.ref 29), some (.int i), none, none, none], [.int (xs (ix (i + (1 : Int32)))), .ref 0], M, 0) _
  refine Rto.trans (Rto.run 4 (congrFun (congrFun (congrFun (congrFun bl_21_1 L) xs) i) M)) ?_
  refine Rto.trans (Rto.run 1 (run_ld rfl rfl rfl i2)) ?_
  show Rto (C_law_21 L xs) (1713, [some (.ref 30), some (.ref 0), some (.ref 19), some (.ref 29), some (.int i), none, none, none], [.int (xs (ix (i + (2 : Int32)))), .int (xs (ix (i + (1 : Int32)))), .ref 0], M, 0) _
  refine Rto.trans (Rto.run 1 (congrFun (congrFun (congrFun (congrFun bl_21_2 L) xs) i) M)) ?_
  refine Rto.trans (Rto.run 1 (run_callS (v := some (.int kk)) rfl rfl rfl rfl hF)) ?_
  show Rto (C_law_21 L xs) (1717, [some (.ref 30), some (.ref 0), some (.ref 19), some (.ref 29), some (.int i), none, none, none], [.int kk], M1, 3) _
  refine Rto.trans (Rto.run 6 (congrFun (congrFun (congrFun (congrFun (congrFun bl_21_3 L) xs) i) kk) M1)) ?_
  refine Rto.trans (Rto.run 1 (run_ld rfl rfl rfl i1)) ?_
  show Rto (C_law_21 L xs) (1726, [some (.ref 30), some (.ref 0), some (.ref 19), some (.ref 29), some (.int i), some (.int kk), none, none], [.int (xs (ix (i + (1 : Int32)))), .ref 19], M1, 3) _
  refine Rto.trans (Rto.run 4 (congrFun (congrFun (congrFun (congrFun (congrFun bl_21_4 L) xs) i) kk) M1)) ?_
  refine Rto.trans (Rto.run 1 (run_ld rfl rfl rfl i2)) ?_
  show Rto (C_law_21 L xs) (1732, [some (.ref 30), some (.ref 0), some (.ref 19), some (.ref 29), some (.int i), some (.int kk), none, none], [.int (xs (ix (i + (2 : Int32)))), .int (xs (ix (i + (1 : Int32)))), .ref 19], M1, 3) _
  refine Rto.trans (Rto.run 1 (run_callV (v := some (.long bl)) rfl rfl rfl rfl rfl hG)) ?_
  show Rto (C_law_21 L xs) (1735, [some (.ref 30), some (.ref 0), some (.ref 19), some (.ref 29), some (.int i), some (.int kk), none, none], [.long bl], M2, 3) _
  refine Rto.trans (Rto.run 4 (congrFun (congrFun (congrFun (congrFun (congrFun (congrFun bl_21_5 L) xs) i) kk) bl) M2)) ?_
  refine Rto.trans (Rto.run 1 (congrFun (congrFun (congrFun (congrFun (congrFun (congrFun bl_21_6 L) xs) i) kk) bl) M2)) ?_
  refine Rto.trans (Rto.brT (q := 1748) ht rfl) ?_
  refine Rto.trans (Rto.run 1 (congrFun (congrFun (congrFun (congrFun (congrFun (congrFun bl_21_7 L) xs) i) kk) bl) M2)) ?_
  refine Rto.trans (Rto.run 1 (congrFun (congrFun (congrFun (congrFun (congrFun (congrFun bl_21_8 L) xs) i) kk) bl) M2)) ?_
  by_cases hk : kk = 0
  · refine Rto.trans (Rto.brNF (q := 1753) hk rfl) ?_
    refine Rto.trans (Rto.run 2 (congrFun (congrFun (congrFun (congrFun (congrFun (congrFun bl_21_9 L) xs) i) kk) bl) M2)) ?_
    refine Rto.trans (Rto.run 1 (run_out rfl rfl rfl)) ?_
    show Rto (C_law_21 L xs) (1756, [some (.ref 30), some (.ref 0), some (.ref 19), some (.ref 29), some (.int i), some (.int kk), some (.long bl), none], [.long (M2.2 29 0)], M2, 3) _
    refine Rto.trans (Rto.run 2 (congrFun (congrFun (congrFun (congrFun (congrFun (congrFun bl_21_10 L) xs) i) kk) bl) M2)) ?_
    refine Rto.trans (Rto.run 1 (congrFun (congrFun (congrFun (congrFun (congrFun (congrFun bl_21_11 L) xs) i) kk) bl) M2)) ?_
    refine Rto.trans (Rto.brT (q := 1764) (lg_cmp_eq _ _ |>.mpr (ho hk)) rfl) ?_
    refine Rto.trans (Rto.run 1 (congrFun (congrFun (congrFun (congrFun (congrFun (congrFun bl_21_12 L) xs) i) kk) bl) M2)) ?_
    refine Rto.trans (Rto.run 2 (congrFun (congrFun (congrFun (congrFun (congrFun (congrFun bl_21_13 L) xs) i) kk) bl) M2)) ?_
    exact Rto.fgt [5, 6, 7] rfl
  · refine Rto.trans (Rto.brNT (q := 1764) hk rfl) ?_
    refine Rto.trans (Rto.run 1 (congrFun (congrFun (congrFun (congrFun (congrFun (congrFun bl_21_14 L) xs) i) kk) bl) M2)) ?_
    refine Rto.trans (Rto.run 2 (congrFun (congrFun (congrFun (congrFun (congrFun (congrFun bl_21_15 L) xs) i) kk) bl) M2)) ?_
    exact Rto.fgt [5, 6, 7] rfl
def t_law_22 : List (Nat × Instr × Nat) := [(1767, .aload_n 1, 1), (1768, .aload_n 0, 1), (1769, .iload 4, 2), (1771, .iconst 1, 1), (1772, .iadd, 1), (1773, .iaload, 1), (1774, .aload_n 0, 1), (1775, .iload 4, 2), (1777, .iconst 2, 1), (1778, .iadd, 1), (1779, .iaload, 1), (1780, .i2l, 1), (1781, .bipush 32, 2), (1783, .lshl, 1), (1784, .aload_n 0, 1), (1785, .iload 4, 2), (1787, .iconst 3, 1), (1788, .iadd, 1), (1789, .iaload, 1), (1790, .i2l, 1), (1791, .ldc2_w 132, 3), (1794, .land, 1), (1795, .lor, 1), (1796, .aload_n 3, 1), (1797, .invokestatic 198, 3), (1800, .istore 5, 2), (1802, .aload_n 2, 1), (1803, .aload_n 0, 1), (1804, .iload 4, 2), (1806, .iconst 1, 1), (1807, .iadd, 1), (1808, .iaload, 1), (1809, .aload_n 0, 1), (1810, .iload 4, 2), (1812, .iconst 2, 1), (1813, .iadd, 1), (1814, .iaload, 1), (1815, .i2l, 1), (1816, .bipush 32, 2), (1818, .lshl, 1), (1819, .aload_n 0, 1), (1820, .iload 4, 2), (1822, .iconst 3, 1), (1823, .iadd, 1), (1824, .iaload, 1), (1825, .i2l, 1), (1826, .ldc2_w 132, 3), (1829, .land, 1), (1830, .lor, 1), (1831, .invokevirtual 201, 3), (1834, .lstore 6, 2), (1836, .aload_n 2, 1), (1837, .invokevirtual 125, 3), (1840, .iload 5, 2), (1842, .if_icmp .eq 5, 3), (1845, .iconst 0, 1), (1846, .ireturn, 1), (1847, .iload 5, 2), (1849, .ifCond .ne 14, 3), (1852, .aload_n 3, 1), (1853, .iconst 0, 1), (1854, .laload, 1), (1855, .lload 6, 2), (1857, .lcmp, 1), (1858, .ifCond .eq 5, 3), (1861, .iconst 0, 1), (1862, .ireturn, 1), (1863, .goto 381, 3), (2244, .iinc 4 5, 3), (2247, .goto (-2224), 3)]
theorem tk_law_22 : ∀ x ∈ t_law_22, decode code x.1 = .ok x.2 := by decide +kernel
def C_law_22 (L : Nat) (xs : Nat → Int32) : Cfg := (t_law_22, csF, fl_L, [(125, 2, 6, 1, 0, fn_X8_thrown), (198, 0, 0, 4, 2, fn_L_wins), (201, 2, 6, 3, 0, fn_X8_wins)], in_L, lg_L, [], [], some (L, xs), some .boolean, 8)
theorem lok_22 (L : Nat) (xs : Nat → Int32) : LawC L xs (C_law_22 L xs) := ⟨⟨tk_law_22, csF_nd, flk_L, (List.forall_mem_cons.mpr ⟨cl_125, List.forall_mem_cons.mpr ⟨cl_198, List.forall_mem_cons.mpr ⟨cl_201, fun _ h => absurd h List.not_mem_nil⟩⟩⟩), ink_L, lgk_L, fun e h => absurd h List.not_mem_nil, fun h hh => absurd hh List.not_mem_nil⟩, rfl, rfl, rfl, rfl, rfl⟩
set_option maxRecDepth 100000 in
theorem bl_22_0 : (fun (L : Nat) (xs : Nat → Int32) (i : Int32) (M : Mem) => run (C_law_22 L xs) 5 (1767, [some (.ref 30), some (.ref 0), some (.ref 19), some (.ref 29), some (.int i), none, none, none], [], M, 0)) = (fun (L : Nat) (xs : Nat → Int32) (i : Int32) (M : Mem) => some (.inl (1773, [some (.ref 30), some (.ref 0), some (.ref 19), some (.ref 29), some (.int i), none, none, none], [.int (i + (1 : Int32)), .ref 30, .ref 0], M, 0))) := by rfl
set_option maxRecDepth 100000 in
theorem bl_22_1 : (fun (L : Nat) (xs : Nat → Int32) (i : Int32) (M : Mem) => run (C_law_22 L xs) 4 (1774, [some (.ref 30), some (.ref 0), some (.ref 19), some (.ref 29), some (.int i), none, none, none], [.int (xs (ix (i + (1 : Int32)))), .ref 0], M, 0)) = (fun (L : Nat) (xs : Nat → Int32) (i : Int32) (M : Mem) => some (.inl (1779, [some (.ref 30), some (.ref 0), some (.ref 19), some (.ref 29), some (.int i), none, none, none], [.int (i + (2 : Int32)), .ref 30, .int (xs (ix (i + (1 : Int32)))), .ref 0], M, 0))) := by rfl
set_option maxRecDepth 100000 in
theorem bl_22_2 : (fun (L : Nat) (xs : Nat → Int32) (i : Int32) (M : Mem) => run (C_law_22 L xs) 7 (1780, [some (.ref 30), some (.ref 0), some (.ref 19), some (.ref 29), some (.int i), none, none, none], [.int (xs (ix (i + (2 : Int32)))), .int (xs (ix (i + (1 : Int32)))), .ref 0], M, 0)) = (fun (L : Nat) (xs : Nat → Int32) (i : Int32) (M : Mem) => some (.inl (1789, [some (.ref 30), some (.ref 0), some (.ref 19), some (.ref 29), some (.int i), none, none, none], [.int (i + (3 : Int32)), .ref 30, .long (jshl ((xs (ix (i + (2 : Int32)))).toInt64) (32 : Int32)), .int (xs (ix (i + (1 : Int32)))), .ref 0], M, 0))) := by rfl
set_option maxRecDepth 100000 in
theorem bl_22_3 : (fun (L : Nat) (xs : Nat → Int32) (i : Int32) (M : Mem) => run (C_law_22 L xs) 5 (1790, [some (.ref 30), some (.ref 0), some (.ref 19), some (.ref 29), some (.int i), none, none, none], [.int (xs (ix (i + (3 : Int32)))), .long (jshl ((xs (ix (i + (2 : Int32)))).toInt64) (32 : Int32)), .int (xs (ix (i + (1 : Int32)))), .ref 0], M, 0)) = (fun (L : Nat) (xs : Nat → Int32) (i : Int32) (M : Mem) => some (.inl (1797, [some (.ref 30), some (.ref 0), some (.ref 19), some (.ref 29), some (.int i), none, none, none], [.ref 29, .long ((jshl ((xs (ix (i + (2 : Int32)))).toInt64) (32 : Int32)) ||| (((xs (ix (i + (3 : Int32)))).toInt64) &&& (4294967295 : Int64))), .int (xs (ix (i + (1 : Int32)))), .ref 0], M, 0))) := by rfl
set_option maxRecDepth 100000 in
theorem bl_22_4 : (fun (L : Nat) (xs : Nat → Int32) (i : Int32) (kk : Int32) (M1 : Mem) => run (C_law_22 L xs) 6 (1800, [some (.ref 30), some (.ref 0), some (.ref 19), some (.ref 29), some (.int i), none, none, none], [.int kk], M1, 2)) = (fun (L : Nat) (xs : Nat → Int32) (i : Int32) (kk : Int32) (M1 : Mem) => some (.inl (1808, [some (.ref 30), some (.ref 0), some (.ref 19), some (.ref 29), some (.int i), some (.int kk), none, none], [.int (i + (1 : Int32)), .ref 30, .ref 19], M1, 2))) := by rfl
set_option maxRecDepth 100000 in
theorem bl_22_5 : (fun (L : Nat) (xs : Nat → Int32) (i : Int32) (kk : Int32) (M1 : Mem) => run (C_law_22 L xs) 4 (1809, [some (.ref 30), some (.ref 0), some (.ref 19), some (.ref 29), some (.int i), some (.int kk), none, none], [.int (xs (ix (i + (1 : Int32)))), .ref 19], M1, 2)) = (fun (L : Nat) (xs : Nat → Int32) (i : Int32) (kk : Int32) (M1 : Mem) => some (.inl (1814, [some (.ref 30), some (.ref 0), some (.ref 19), some (.ref 29), some (.int i), some (.int kk), none, none], [.int (i + (2 : Int32)), .ref 30, .int (xs (ix (i + (1 : Int32)))), .ref 19], M1, 2))) := by rfl
set_option maxRecDepth 100000 in
theorem bl_22_6 : (fun (L : Nat) (xs : Nat → Int32) (i : Int32) (kk : Int32) (M1 : Mem) => run (C_law_22 L xs) 7 (1815, [some (.ref 30), some (.ref 0), some (.ref 19), some (.ref 29), some (.int i), some (.int kk), none, none], [.int (xs (ix (i + (2 : Int32)))), .int (xs (ix (i + (1 : Int32)))), .ref 19], M1, 2)) = (fun (L : Nat) (xs : Nat → Int32) (i : Int32) (kk : Int32) (M1 : Mem) => some (.inl (1824, [some (.ref 30), some (.ref 0), some (.ref 19), some (.ref 29), some (.int i), some (.int kk), none, none], [.int (i + (3 : Int32)), .ref 30, .long (jshl ((xs (ix (i + (2 : Int32)))).toInt64) (32 : Int32)), .int (xs (ix (i + (1 : Int32)))), .ref 19], M1, 2))) := by rfl
set_option maxRecDepth 100000 in
theorem bl_22_7 : (fun (L : Nat) (xs : Nat → Int32) (i : Int32) (kk : Int32) (M1 : Mem) => run (C_law_22 L xs) 4 (1825, [some (.ref 30), some (.ref 0), some (.ref 19), some (.ref 29), some (.int i), some (.int kk), none, none], [.int (xs (ix (i + (3 : Int32)))), .long (jshl ((xs (ix (i + (2 : Int32)))).toInt64) (32 : Int32)), .int (xs (ix (i + (1 : Int32)))), .ref 19], M1, 2)) = (fun (L : Nat) (xs : Nat → Int32) (i : Int32) (kk : Int32) (M1 : Mem) => some (.inl (1831, [some (.ref 30), some (.ref 0), some (.ref 19), some (.ref 29), some (.int i), some (.int kk), none, none], [.long ((jshl ((xs (ix (i + (2 : Int32)))).toInt64) (32 : Int32)) ||| (((xs (ix (i + (3 : Int32)))).toInt64) &&& (4294967295 : Int64))), .int (xs (ix (i + (1 : Int32)))), .ref 19], M1, 2))) := by rfl
set_option maxRecDepth 100000 in
theorem bl_22_8 : (fun (L : Nat) (xs : Nat → Int32) (i : Int32) (kk : Int32) (bl : Int64) (M2 : Mem) => run (C_law_22 L xs) 4 (1834, [some (.ref 30), some (.ref 0), some (.ref 19), some (.ref 29), some (.int i), some (.int kk), none, none], [.long bl], M2, 2)) = (fun (L : Nat) (xs : Nat → Int32) (i : Int32) (kk : Int32) (bl : Int64) (M2 : Mem) => some (.inl (1842, [some (.ref 30), some (.ref 0), some (.ref 19), some (.ref 29), some (.int i), some (.int kk), some (.long bl), none], [.int kk, .int (M2.1 19 15)], M2, 2))) := by rfl
set_option maxRecDepth 100000 in
theorem bl_22_9 : (fun (L : Nat) (xs : Nat → Int32) (i : Int32) (kk : Int32) (bl : Int64) (M2 : Mem) => run (C_law_22 L xs) 1 (1842, [some (.ref 30), some (.ref 0), some (.ref 19), some (.ref 29), some (.int i), some (.int kk), some (.long bl), none], [.int kk, .int (M2.1 19 15)], M2, 2)) = (fun (L : Nat) (xs : Nat → Int32) (i : Int32) (kk : Int32) (bl : Int64) (M2 : Mem) => some (.inl ((br (decide ((M2.1 19 15) = kk)) 1842 3 (5)), [some (.ref 30), some (.ref 0), some (.ref 19), some (.ref 29), some (.int i), some (.int kk), some (.long bl), none], [], M2, 2))) := by rfl
set_option maxRecDepth 100000 in
theorem bl_22_10 : (fun (L : Nat) (xs : Nat → Int32) (i : Int32) (kk : Int32) (bl : Int64) (M2 : Mem) => run (C_law_22 L xs) 1 (1847, [some (.ref 30), some (.ref 0), some (.ref 19), some (.ref 29), some (.int i), some (.int kk), some (.long bl), none], [], M2, 2)) = (fun (L : Nat) (xs : Nat → Int32) (i : Int32) (kk : Int32) (bl : Int64) (M2 : Mem) => some (.inl (1849, [some (.ref 30), some (.ref 0), some (.ref 19), some (.ref 29), some (.int i), some (.int kk), some (.long bl), none], [.int kk], M2, 2))) := by rfl
set_option maxRecDepth 100000 in
theorem bl_22_11 : (fun (L : Nat) (xs : Nat → Int32) (i : Int32) (kk : Int32) (bl : Int64) (M2 : Mem) => run (C_law_22 L xs) 1 (1849, [some (.ref 30), some (.ref 0), some (.ref 19), some (.ref 29), some (.int i), some (.int kk), some (.long bl), none], [.int kk], M2, 2)) = (fun (L : Nat) (xs : Nat → Int32) (i : Int32) (kk : Int32) (bl : Int64) (M2 : Mem) => some (.inl ((br (!decide (kk = 0)) 1849 3 (14)), [some (.ref 30), some (.ref 0), some (.ref 19), some (.ref 29), some (.int i), some (.int kk), some (.long bl), none], [], M2, 2))) := by rfl
set_option maxRecDepth 100000 in
theorem bl_22_12 : (fun (L : Nat) (xs : Nat → Int32) (i : Int32) (kk : Int32) (bl : Int64) (M2 : Mem) => run (C_law_22 L xs) 2 (1852, [some (.ref 30), some (.ref 0), some (.ref 19), some (.ref 29), some (.int i), some (.int kk), some (.long bl), none], [], M2, 2)) = (fun (L : Nat) (xs : Nat → Int32) (i : Int32) (kk : Int32) (bl : Int64) (M2 : Mem) => some (.inl (1854, [some (.ref 30), some (.ref 0), some (.ref 19), some (.ref 29), some (.int i), some (.int kk), some (.long bl), none], [.int (0 : Int32), .ref 29], M2, 2))) := by rfl
set_option maxRecDepth 100000 in
theorem bl_22_13 : (fun (L : Nat) (xs : Nat → Int32) (i : Int32) (kk : Int32) (bl : Int64) (M2 : Mem) => run (C_law_22 L xs) 2 (1855, [some (.ref 30), some (.ref 0), some (.ref 19), some (.ref 29), some (.int i), some (.int kk), some (.long bl), none], [.long (M2.2 29 0)], M2, 2)) = (fun (L : Nat) (xs : Nat → Int32) (i : Int32) (kk : Int32) (bl : Int64) (M2 : Mem) => some (.inl (1858, [some (.ref 30), some (.ref 0), some (.ref 19), some (.ref 29), some (.int i), some (.int kk), some (.long bl), none], [.int (lg_cmp (M2.2 29 0) bl)], M2, 2))) := by rfl
set_option maxRecDepth 100000 in
theorem bl_22_14 : (fun (L : Nat) (xs : Nat → Int32) (i : Int32) (kk : Int32) (bl : Int64) (M2 : Mem) => run (C_law_22 L xs) 1 (1858, [some (.ref 30), some (.ref 0), some (.ref 19), some (.ref 29), some (.int i), some (.int kk), some (.long bl), none], [.int (lg_cmp (M2.2 29 0) bl)], M2, 2)) = (fun (L : Nat) (xs : Nat → Int32) (i : Int32) (kk : Int32) (bl : Int64) (M2 : Mem) => some (.inl ((br (decide ((lg_cmp (M2.2 29 0) bl) = 0)) 1858 3 (5)), [some (.ref 30), some (.ref 0), some (.ref 19), some (.ref 29), some (.int i), some (.int kk), some (.long bl), none], [], M2, 2))) := by rfl
set_option maxRecDepth 100000 in
theorem bl_22_15 : (fun (L : Nat) (xs : Nat → Int32) (i : Int32) (kk : Int32) (bl : Int64) (M2 : Mem) => run (C_law_22 L xs) 1 (1863, [some (.ref 30), some (.ref 0), some (.ref 19), some (.ref 29), some (.int i), some (.int kk), some (.long bl), none], [], M2, 2)) = (fun (L : Nat) (xs : Nat → Int32) (i : Int32) (kk : Int32) (bl : Int64) (M2 : Mem) => some (.inl (2244, [some (.ref 30), some (.ref 0), some (.ref 19), some (.ref 29), some (.int i), some (.int kk), some (.long bl), none], [], M2, 2))) := by rfl
set_option maxRecDepth 100000 in
theorem bl_22_16 : (fun (L : Nat) (xs : Nat → Int32) (i : Int32) (kk : Int32) (bl : Int64) (M2 : Mem) => run (C_law_22 L xs) 2 (2244, [some (.ref 30), some (.ref 0), some (.ref 19), some (.ref 29), some (.int i), some (.int kk), some (.long bl), none], [], M2, 2)) = (fun (L : Nat) (xs : Nat → Int32) (i : Int32) (kk : Int32) (bl : Int64) (M2 : Mem) => some (.inl (23, [some (.ref 30), some (.ref 0), some (.ref 19), some (.ref 29), some (.int (i + (5 : Int32))), some (.int kk), some (.long bl), none], [], M2, 2))) := by rfl
set_option maxRecDepth 100000 in
theorem bl_22_17 : (fun (L : Nat) (xs : Nat → Int32) (i : Int32) (kk : Int32) (bl : Int64) (M2 : Mem) => run (C_law_22 L xs) 1 (1863, [some (.ref 30), some (.ref 0), some (.ref 19), some (.ref 29), some (.int i), some (.int kk), some (.long bl), none], [], M2, 2)) = (fun (L : Nat) (xs : Nat → Int32) (i : Int32) (kk : Int32) (bl : Int64) (M2 : Mem) => some (.inl (2244, [some (.ref 30), some (.ref 0), some (.ref 19), some (.ref 29), some (.int i), some (.int kk), some (.long bl), none], [], M2, 2))) := by rfl
set_option maxRecDepth 100000 in
theorem bl_22_18 : (fun (L : Nat) (xs : Nat → Int32) (i : Int32) (kk : Int32) (bl : Int64) (M2 : Mem) => run (C_law_22 L xs) 2 (2244, [some (.ref 30), some (.ref 0), some (.ref 19), some (.ref 29), some (.int i), some (.int kk), some (.long bl), none], [], M2, 2)) = (fun (L : Nat) (xs : Nat → Int32) (i : Int32) (kk : Int32) (bl : Int64) (M2 : Mem) => some (.inl (23, [some (.ref 30), some (.ref 0), some (.ref 19), some (.ref 29), some (.int (i + (5 : Int32))), some (.int kk), some (.long bl), none], [], M2, 2))) := by rfl
theorem cz_22 {L : Nat} {xs : Nat → Int32} {i : Int32} {M : Mem} (h : Inv M) (i1 : inb (i + (1 : Int32)) L = true) (i2 : inb (i + (2 : Int32)) L = true) (i3 : inb (i + (3 : Int32)) L = true) : ∃ (M' : Mem) (k : Nat), k ≤ 8 ∧ Inv M' ∧ Rto (C_law_22 L xs) (1767, loL i, [], M, 0) (23, loL (i + (5 : Int32)), [], M', k) := by
  obtain ⟨kk, bl, M1, M2, hF, hG, ht, ho, hI⟩ := cs_wins h (xs (ix (i + (1 : Int32)))) ((jshl ((xs (ix (i + (2 : Int32)))).toInt64) (32 : Int32)) ||| (((xs (ix (i + (3 : Int32)))).toInt64) &&& (4294967295 : Int64)))
  refine ⟨M2, 2, by decide, hI, ?_⟩
  refine Rto.trans (Rto.run 5 (congrFun (congrFun (congrFun (congrFun bl_22_0 L) xs) i) M)) ?_
  refine Rto.trans (Rto.run 1 (run_ld rfl rfl rfl i1)) ?_
  show Rto (C_law_22 L xs) (1774, [some (.ref 30), some (.ref 0), some (.ref 19), some (.ref 29), some (.int i), none, none, none], [.int (xs (ix (i + (1 : Int32)))), .ref 0], M, 0) _
  refine Rto.trans (Rto.run 4 (congrFun (congrFun (congrFun (congrFun bl_22_1 L) xs) i) M)) ?_
  refine Rto.trans (Rto.run 1 (run_ld rfl rfl rfl i2)) ?_
  show Rto (C_law_22 L xs) (1780, [some (.ref 30), some (.ref 0), some (.ref 19), some (.ref 29), some (.int i), none, none, none], [.int (xs (ix (i + (2 : Int32)))), .int (xs (ix (i + (1 : Int32)))), .ref 0], M, 0) _
  refine Rto.trans (Rto.run 7 (congrFun (congrFun (congrFun (congrFun bl_22_2 L) xs) i) M)) ?_
  refine Rto.trans (Rto.run 1 (run_ld rfl rfl rfl i3)) ?_
  show Rto (C_law_22 L xs) (1790, [some (.ref 30), some (.ref 0), some (.ref 19), some (.ref 29), some (.int i), none, none, none], [.int (xs (ix (i + (3 : Int32)))), .long (jshl ((xs (ix (i + (2 : Int32)))).toInt64) (32 : Int32)), .int (xs (ix (i + (1 : Int32)))), .ref 0], M, 0) _
  refine Rto.trans (Rto.run 5 (congrFun (congrFun (congrFun (congrFun bl_22_3 L) xs) i) M)) ?_
  refine Rto.trans (Rto.run 1 (run_callS (v := some (.int kk)) rfl rfl rfl rfl hF)) ?_
  show Rto (C_law_22 L xs) (1800, [some (.ref 30), some (.ref 0), some (.ref 19), some (.ref 29), some (.int i), none, none, none], [.int kk], M1, 2) _
  refine Rto.trans (Rto.run 6 (congrFun (congrFun (congrFun (congrFun (congrFun bl_22_4 L) xs) i) kk) M1)) ?_
  refine Rto.trans (Rto.run 1 (run_ld rfl rfl rfl i1)) ?_
  show Rto (C_law_22 L xs) (1809, [some (.ref 30), some (.ref 0), some (.ref 19), some (.ref 29), some (.int i), some (.int kk), none, none], [.int (xs (ix (i + (1 : Int32)))), .ref 19], M1, 2) _
  refine Rto.trans (Rto.run 4 (congrFun (congrFun (congrFun (congrFun (congrFun bl_22_5 L) xs) i) kk) M1)) ?_
  refine Rto.trans (Rto.run 1 (run_ld rfl rfl rfl i2)) ?_
  show Rto (C_law_22 L xs) (1815, [some (.ref 30), some (.ref 0), some (.ref 19), some (.ref 29), some (.int i), some (.int kk), none, none], [.int (xs (ix (i + (2 : Int32)))), .int (xs (ix (i + (1 : Int32)))), .ref 19], M1, 2) _
  refine Rto.trans (Rto.run 7 (congrFun (congrFun (congrFun (congrFun (congrFun bl_22_6 L) xs) i) kk) M1)) ?_
  refine Rto.trans (Rto.run 1 (run_ld rfl rfl rfl i3)) ?_
  show Rto (C_law_22 L xs) (1825, [some (.ref 30), some (.ref 0), some (.ref 19), some (.ref 29), some (.int i), some (.int kk), none, none], [.int (xs (ix (i + (3 : Int32)))), .long (jshl ((xs (ix (i + (2 : Int32)))).toInt64) (32 : Int32)), .int (xs (ix (i + (1 : Int32)))), .ref 19], M1, 2) _
  refine Rto.trans (Rto.run 4 (congrFun (congrFun (congrFun (congrFun (congrFun bl_22_7 L) xs) i) kk) M1)) ?_
  refine Rto.trans (Rto.run 1 (run_callV (v := some (.long bl)) rfl rfl rfl rfl rfl hG)) ?_
  show Rto (C_law_22 L xs) (1834, [some (.ref 30), some (.ref 0), some (.ref 19), some (.ref 29), some (.int i), some (.int kk), none, none], [.long bl], M2, 2) _
  refine Rto.trans (Rto.run 4 (congrFun (congrFun (congrFun (congrFun (congrFun (congrFun bl_22_8 L) xs) i) kk) bl) M2)) ?_
  refine Rto.trans (Rto.run 1 (congrFun (congrFun (congrFun (congrFun (congrFun (congrFun bl_22_9 L) xs) i) kk) bl) M2)) ?_
  refine Rto.trans (Rto.brT (q := 1847) ht rfl) ?_
  refine Rto.trans (Rto.run 1 (congrFun (congrFun (congrFun (congrFun (congrFun (congrFun bl_22_10 L) xs) i) kk) bl) M2)) ?_
  refine Rto.trans (Rto.run 1 (congrFun (congrFun (congrFun (congrFun (congrFun (congrFun bl_22_11 L) xs) i) kk) bl) M2)) ?_
  by_cases hk : kk = 0
  · refine Rto.trans (Rto.brNF (q := 1852) hk rfl) ?_
    refine Rto.trans (Rto.run 2 (congrFun (congrFun (congrFun (congrFun (congrFun (congrFun bl_22_12 L) xs) i) kk) bl) M2)) ?_
    refine Rto.trans (Rto.run 1 (run_out rfl rfl rfl)) ?_
    show Rto (C_law_22 L xs) (1855, [some (.ref 30), some (.ref 0), some (.ref 19), some (.ref 29), some (.int i), some (.int kk), some (.long bl), none], [.long (M2.2 29 0)], M2, 2) _
    refine Rto.trans (Rto.run 2 (congrFun (congrFun (congrFun (congrFun (congrFun (congrFun bl_22_13 L) xs) i) kk) bl) M2)) ?_
    refine Rto.trans (Rto.run 1 (congrFun (congrFun (congrFun (congrFun (congrFun (congrFun bl_22_14 L) xs) i) kk) bl) M2)) ?_
    refine Rto.trans (Rto.brT (q := 1863) (lg_cmp_eq _ _ |>.mpr (ho hk)) rfl) ?_
    refine Rto.trans (Rto.run 1 (congrFun (congrFun (congrFun (congrFun (congrFun (congrFun bl_22_15 L) xs) i) kk) bl) M2)) ?_
    refine Rto.trans (Rto.run 2 (congrFun (congrFun (congrFun (congrFun (congrFun (congrFun bl_22_16 L) xs) i) kk) bl) M2)) ?_
    exact Rto.fgt [5, 6, 7] rfl
  · refine Rto.trans (Rto.brNT (q := 1863) hk rfl) ?_
    refine Rto.trans (Rto.run 1 (congrFun (congrFun (congrFun (congrFun (congrFun (congrFun bl_22_17 L) xs) i) kk) bl) M2)) ?_
    refine Rto.trans (Rto.run 2 (congrFun (congrFun (congrFun (congrFun (congrFun (congrFun bl_22_18 L) xs) i) kk) bl) M2)) ?_
    exact Rto.fgt [5, 6, 7] rfl
def t_law_23 : List (Nat × Instr × Nat) := [(1866, .aload_n 1, 1), (1867, .aload_n 0, 1), (1868, .iload 4, 2), (1870, .iconst 1, 1), (1871, .iadd, 1), (1872, .iaload, 1), (1873, .aload_n 3, 1), (1874, .invokestatic 202, 3), (1877, .istore 5, 2), (1879, .aload_n 2, 1), (1880, .aload_n 0, 1), (1881, .iload 4, 2), (1883, .iconst 1, 1), (1884, .iadd, 1), (1885, .iaload, 1), (1886, .invokevirtual 204, 3), (1889, .istore 6, 2), (1891, .aload_n 2, 1), (1892, .invokevirtual 125, 3), (1895, .iload 5, 2), (1897, .if_icmp .eq 5, 3), (1900, .iconst 0, 1), (1901, .ireturn, 1), (1902, .iload 5, 2), (1904, .ifCond .ne 15, 3), (1907, .aload_n 3, 1), (1908, .iconst 0, 1), (1909, .laload, 1), (1910, .iload 6, 2), (1912, .i2l, 1), (1913, .lcmp, 1), (1914, .ifCond .eq 5, 3), (1917, .iconst 0, 1), (1918, .ireturn, 1), (1919, .goto 325, 3), (2244, .iinc 4 5, 3), (2247, .goto (-2224), 3)]
theorem tk_law_23 : ∀ x ∈ t_law_23, decode code x.1 = .ok x.2 := by decide +kernel
def C_law_23 (L : Nat) (xs : Nat → Int32) : Cfg := (t_law_23, csF, fl_L, [(125, 2, 6, 1, 0, fn_X8_thrown), (202, 0, 0, 3, 2, fn_L_put), (204, 2, 6, 2, 0, fn_X8_put)], in_L, lg_L, [], [], some (L, xs), some .boolean, 8)
theorem lok_23 (L : Nat) (xs : Nat → Int32) : LawC L xs (C_law_23 L xs) := ⟨⟨tk_law_23, csF_nd, flk_L, (List.forall_mem_cons.mpr ⟨cl_125, List.forall_mem_cons.mpr ⟨cl_202, List.forall_mem_cons.mpr ⟨cl_204, fun _ h => absurd h List.not_mem_nil⟩⟩⟩), ink_L, lgk_L, fun e h => absurd h List.not_mem_nil, fun h hh => absurd hh List.not_mem_nil⟩, rfl, rfl, rfl, rfl, rfl⟩
set_option maxRecDepth 100000 in
theorem bl_23_0 : (fun (L : Nat) (xs : Nat → Int32) (i : Int32) (M : Mem) => run (C_law_23 L xs) 5 (1866, [some (.ref 30), some (.ref 0), some (.ref 19), some (.ref 29), some (.int i), none, none, none], [], M, 0)) = (fun (L : Nat) (xs : Nat → Int32) (i : Int32) (M : Mem) => some (.inl (1872, [some (.ref 30), some (.ref 0), some (.ref 19), some (.ref 29), some (.int i), none, none, none], [.int (i + (1 : Int32)), .ref 30, .ref 0], M, 0))) := by rfl
set_option maxRecDepth 100000 in
theorem bl_23_1 : (fun (L : Nat) (xs : Nat → Int32) (i : Int32) (M : Mem) => run (C_law_23 L xs) 1 (1873, [some (.ref 30), some (.ref 0), some (.ref 19), some (.ref 29), some (.int i), none, none, none], [.int (xs (ix (i + (1 : Int32)))), .ref 0], M, 0)) = (fun (L : Nat) (xs : Nat → Int32) (i : Int32) (M : Mem) => some (.inl (1874, [some (.ref 30), some (.ref 0), some (.ref 19), some (.ref 29), some (.int i), none, none, none], [.ref 29, .int (xs (ix (i + (1 : Int32)))), .ref 0], M, 0))) := by rfl
set_option maxRecDepth 100000 in
theorem bl_23_2 : (fun (L : Nat) (xs : Nat → Int32) (i : Int32) (kk : Int32) (M1 : Mem) => run (C_law_23 L xs) 6 (1877, [some (.ref 30), some (.ref 0), some (.ref 19), some (.ref 29), some (.int i), none, none, none], [.int kk], M1, 2)) = (fun (L : Nat) (xs : Nat → Int32) (i : Int32) (kk : Int32) (M1 : Mem) => some (.inl (1885, [some (.ref 30), some (.ref 0), some (.ref 19), some (.ref 29), some (.int i), some (.int kk), none, none], [.int (i + (1 : Int32)), .ref 30, .ref 19], M1, 2))) := by rfl
set_option maxRecDepth 100000 in
theorem bl_23_3 : (fun (L : Nat) (xs : Nat → Int32) (i : Int32) (kk : Int32) (b : Int32) (M2 : Mem) => run (C_law_23 L xs) 4 (1889, [some (.ref 30), some (.ref 0), some (.ref 19), some (.ref 29), some (.int i), some (.int kk), none, none], [.int b], M2, 2)) = (fun (L : Nat) (xs : Nat → Int32) (i : Int32) (kk : Int32) (b : Int32) (M2 : Mem) => some (.inl (1897, [some (.ref 30), some (.ref 0), some (.ref 19), some (.ref 29), some (.int i), some (.int kk), some (.int b), none], [.int kk, .int (M2.1 19 15)], M2, 2))) := by rfl
set_option maxRecDepth 100000 in
theorem bl_23_4 : (fun (L : Nat) (xs : Nat → Int32) (i : Int32) (kk : Int32) (b : Int32) (M2 : Mem) => run (C_law_23 L xs) 1 (1897, [some (.ref 30), some (.ref 0), some (.ref 19), some (.ref 29), some (.int i), some (.int kk), some (.int b), none], [.int kk, .int (M2.1 19 15)], M2, 2)) = (fun (L : Nat) (xs : Nat → Int32) (i : Int32) (kk : Int32) (b : Int32) (M2 : Mem) => some (.inl ((br (decide ((M2.1 19 15) = kk)) 1897 3 (5)), [some (.ref 30), some (.ref 0), some (.ref 19), some (.ref 29), some (.int i), some (.int kk), some (.int b), none], [], M2, 2))) := by rfl
set_option maxRecDepth 100000 in
theorem bl_23_5 : (fun (L : Nat) (xs : Nat → Int32) (i : Int32) (kk : Int32) (b : Int32) (M2 : Mem) => run (C_law_23 L xs) 1 (1902, [some (.ref 30), some (.ref 0), some (.ref 19), some (.ref 29), some (.int i), some (.int kk), some (.int b), none], [], M2, 2)) = (fun (L : Nat) (xs : Nat → Int32) (i : Int32) (kk : Int32) (b : Int32) (M2 : Mem) => some (.inl (1904, [some (.ref 30), some (.ref 0), some (.ref 19), some (.ref 29), some (.int i), some (.int kk), some (.int b), none], [.int kk], M2, 2))) := by rfl
set_option maxRecDepth 100000 in
theorem bl_23_6 : (fun (L : Nat) (xs : Nat → Int32) (i : Int32) (kk : Int32) (b : Int32) (M2 : Mem) => run (C_law_23 L xs) 1 (1904, [some (.ref 30), some (.ref 0), some (.ref 19), some (.ref 29), some (.int i), some (.int kk), some (.int b), none], [.int kk], M2, 2)) = (fun (L : Nat) (xs : Nat → Int32) (i : Int32) (kk : Int32) (b : Int32) (M2 : Mem) => some (.inl ((br (!decide (kk = 0)) 1904 3 (15)), [some (.ref 30), some (.ref 0), some (.ref 19), some (.ref 29), some (.int i), some (.int kk), some (.int b), none], [], M2, 2))) := by rfl
set_option maxRecDepth 100000 in
theorem bl_23_7 : (fun (L : Nat) (xs : Nat → Int32) (i : Int32) (kk : Int32) (b : Int32) (M2 : Mem) => run (C_law_23 L xs) 2 (1907, [some (.ref 30), some (.ref 0), some (.ref 19), some (.ref 29), some (.int i), some (.int kk), some (.int b), none], [], M2, 2)) = (fun (L : Nat) (xs : Nat → Int32) (i : Int32) (kk : Int32) (b : Int32) (M2 : Mem) => some (.inl (1909, [some (.ref 30), some (.ref 0), some (.ref 19), some (.ref 29), some (.int i), some (.int kk), some (.int b), none], [.int (0 : Int32), .ref 29], M2, 2))) := by rfl
set_option maxRecDepth 100000 in
theorem bl_23_8 : (fun (L : Nat) (xs : Nat → Int32) (i : Int32) (kk : Int32) (b : Int32) (M2 : Mem) => run (C_law_23 L xs) 3 (1910, [some (.ref 30), some (.ref 0), some (.ref 19), some (.ref 29), some (.int i), some (.int kk), some (.int b), none], [.long (M2.2 29 0)], M2, 2)) = (fun (L : Nat) (xs : Nat → Int32) (i : Int32) (kk : Int32) (b : Int32) (M2 : Mem) => some (.inl (1914, [some (.ref 30), some (.ref 0), some (.ref 19), some (.ref 29), some (.int i), some (.int kk), some (.int b), none], [.int (lg_cmp (M2.2 29 0) b.toInt64)], M2, 2))) := by rfl
set_option maxRecDepth 100000 in
theorem bl_23_9 : (fun (L : Nat) (xs : Nat → Int32) (i : Int32) (kk : Int32) (b : Int32) (M2 : Mem) => run (C_law_23 L xs) 1 (1914, [some (.ref 30), some (.ref 0), some (.ref 19), some (.ref 29), some (.int i), some (.int kk), some (.int b), none], [.int (lg_cmp (M2.2 29 0) b.toInt64)], M2, 2)) = (fun (L : Nat) (xs : Nat → Int32) (i : Int32) (kk : Int32) (b : Int32) (M2 : Mem) => some (.inl ((br (decide ((lg_cmp (M2.2 29 0) b.toInt64) = 0)) 1914 3 (5)), [some (.ref 30), some (.ref 0), some (.ref 19), some (.ref 29), some (.int i), some (.int kk), some (.int b), none], [], M2, 2))) := by rfl
set_option maxRecDepth 100000 in
theorem bl_23_10 : (fun (L : Nat) (xs : Nat → Int32) (i : Int32) (kk : Int32) (b : Int32) (M2 : Mem) => run (C_law_23 L xs) 1 (1919, [some (.ref 30), some (.ref 0), some (.ref 19), some (.ref 29), some (.int i), some (.int kk), some (.int b), none], [], M2, 2)) = (fun (L : Nat) (xs : Nat → Int32) (i : Int32) (kk : Int32) (b : Int32) (M2 : Mem) => some (.inl (2244, [some (.ref 30), some (.ref 0), some (.ref 19), some (.ref 29), some (.int i), some (.int kk), some (.int b), none], [], M2, 2))) := by rfl
set_option maxRecDepth 100000 in
theorem bl_23_11 : (fun (L : Nat) (xs : Nat → Int32) (i : Int32) (kk : Int32) (b : Int32) (M2 : Mem) => run (C_law_23 L xs) 2 (2244, [some (.ref 30), some (.ref 0), some (.ref 19), some (.ref 29), some (.int i), some (.int kk), some (.int b), none], [], M2, 2)) = (fun (L : Nat) (xs : Nat → Int32) (i : Int32) (kk : Int32) (b : Int32) (M2 : Mem) => some (.inl (23, [some (.ref 30), some (.ref 0), some (.ref 19), some (.ref 29), some (.int (i + (5 : Int32))), some (.int kk), some (.int b), none], [], M2, 2))) := by rfl
set_option maxRecDepth 100000 in
theorem bl_23_12 : (fun (L : Nat) (xs : Nat → Int32) (i : Int32) (kk : Int32) (b : Int32) (M2 : Mem) => run (C_law_23 L xs) 1 (1919, [some (.ref 30), some (.ref 0), some (.ref 19), some (.ref 29), some (.int i), some (.int kk), some (.int b), none], [], M2, 2)) = (fun (L : Nat) (xs : Nat → Int32) (i : Int32) (kk : Int32) (b : Int32) (M2 : Mem) => some (.inl (2244, [some (.ref 30), some (.ref 0), some (.ref 19), some (.ref 29), some (.int i), some (.int kk), some (.int b), none], [], M2, 2))) := by rfl
set_option maxRecDepth 100000 in
theorem bl_23_13 : (fun (L : Nat) (xs : Nat → Int32) (i : Int32) (kk : Int32) (b : Int32) (M2 : Mem) => run (C_law_23 L xs) 2 (2244, [some (.ref 30), some (.ref 0), some (.ref 19), some (.ref 29), some (.int i), some (.int kk), some (.int b), none], [], M2, 2)) = (fun (L : Nat) (xs : Nat → Int32) (i : Int32) (kk : Int32) (b : Int32) (M2 : Mem) => some (.inl (23, [some (.ref 30), some (.ref 0), some (.ref 19), some (.ref 29), some (.int (i + (5 : Int32))), some (.int kk), some (.int b), none], [], M2, 2))) := by rfl
theorem cz_23 {L : Nat} {xs : Nat → Int32} {i : Int32} {M : Mem} (h : Inv M) (i1 : inb (i + (1 : Int32)) L = true) : ∃ (M' : Mem) (k : Nat), k ≤ 8 ∧ Inv M' ∧ Rto (C_law_23 L xs) (1866, loL i, [], M, 0) (23, loL (i + (5 : Int32)), [], M', k) := by
  obtain ⟨kk, b, M1, M2, hF, hG, ht, ho, hI⟩ := cs_put h (xs (ix (i + (1 : Int32))))
  refine ⟨M2, 2, by decide, hI, ?_⟩
  refine Rto.trans (Rto.run 5 (congrFun (congrFun (congrFun (congrFun bl_23_0 L) xs) i) M)) ?_
  refine Rto.trans (Rto.run 1 (run_ld rfl rfl rfl i1)) ?_
  show Rto (C_law_23 L xs) (1873, [some (.ref 30), some (.ref 0), some (.ref 19), some (.ref 29), some (.int i), none, none, none], [.int (xs (ix (i + (1 : Int32)))), .ref 0], M, 0) _
  refine Rto.trans (Rto.run 1 (congrFun (congrFun (congrFun (congrFun bl_23_1 L) xs) i) M)) ?_
  refine Rto.trans (Rto.run 1 (run_callS (v := some (.int kk)) rfl rfl rfl rfl hF)) ?_
  show Rto (C_law_23 L xs) (1877, [some (.ref 30), some (.ref 0), some (.ref 19), some (.ref 29), some (.int i), none, none, none], [.int kk], M1, 2) _
  refine Rto.trans (Rto.run 6 (congrFun (congrFun (congrFun (congrFun (congrFun bl_23_2 L) xs) i) kk) M1)) ?_
  refine Rto.trans (Rto.run 1 (run_ld rfl rfl rfl i1)) ?_
  show Rto (C_law_23 L xs) (1886, [some (.ref 30), some (.ref 0), some (.ref 19), some (.ref 29), some (.int i), some (.int kk), none, none], [.int (xs (ix (i + (1 : Int32)))), .ref 19], M1, 2) _
  refine Rto.trans (Rto.run 1 (run_callV (v := some (.int b)) rfl rfl rfl rfl rfl hG)) ?_
  show Rto (C_law_23 L xs) (1889, [some (.ref 30), some (.ref 0), some (.ref 19), some (.ref 29), some (.int i), some (.int kk), none, none], [.int b], M2, 2) _
  refine Rto.trans (Rto.run 4 (congrFun (congrFun (congrFun (congrFun (congrFun (congrFun bl_23_3 L) xs) i) kk) b) M2)) ?_
  refine Rto.trans (Rto.run 1 (congrFun (congrFun (congrFun (congrFun (congrFun (congrFun bl_23_4 L) xs) i) kk) b) M2)) ?_
  refine Rto.trans (Rto.brT (q := 1902) ht rfl) ?_
  refine Rto.trans (Rto.run 1 (congrFun (congrFun (congrFun (congrFun (congrFun (congrFun bl_23_5 L) xs) i) kk) b) M2)) ?_
  refine Rto.trans (Rto.run 1 (congrFun (congrFun (congrFun (congrFun (congrFun (congrFun bl_23_6 L) xs) i) kk) b) M2)) ?_
  by_cases hk : kk = 0
  · refine Rto.trans (Rto.brNF (q := 1907) hk rfl) ?_
    refine Rto.trans (Rto.run 2 (congrFun (congrFun (congrFun (congrFun (congrFun (congrFun bl_23_7 L) xs) i) kk) b) M2)) ?_
    refine Rto.trans (Rto.run 1 (run_out rfl rfl rfl)) ?_
    show Rto (C_law_23 L xs) (1910, [some (.ref 30), some (.ref 0), some (.ref 19), some (.ref 29), some (.int i), some (.int kk), some (.int b), none], [.long (M2.2 29 0)], M2, 2) _
    refine Rto.trans (Rto.run 3 (congrFun (congrFun (congrFun (congrFun (congrFun (congrFun bl_23_8 L) xs) i) kk) b) M2)) ?_
    refine Rto.trans (Rto.run 1 (congrFun (congrFun (congrFun (congrFun (congrFun (congrFun bl_23_9 L) xs) i) kk) b) M2)) ?_
    refine Rto.trans (Rto.brT (q := 1919) (lg_cmp_eq _ _ |>.mpr (ho hk)) rfl) ?_
    refine Rto.trans (Rto.run 1 (congrFun (congrFun (congrFun (congrFun (congrFun (congrFun bl_23_10 L) xs) i) kk) b) M2)) ?_
    refine Rto.trans (Rto.run 2 (congrFun (congrFun (congrFun (congrFun (congrFun (congrFun bl_23_11 L) xs) i) kk) b) M2)) ?_
    exact Rto.fgt [5, 6, 7] rfl
  · refine Rto.trans (Rto.brNT (q := 1919) hk rfl) ?_
    refine Rto.trans (Rto.run 1 (congrFun (congrFun (congrFun (congrFun (congrFun (congrFun bl_23_12 L) xs) i) kk) b) M2)) ?_
    refine Rto.trans (Rto.run 2 (congrFun (congrFun (congrFun (congrFun (congrFun (congrFun bl_23_13 L) xs) i) kk) b) M2)) ?_
    exact Rto.fgt [5, 6, 7] rfl
def t_law_24 : List (Nat × Instr × Nat) := [(1922, .aload_n 1, 1), (1923, .invokevirtual 205, 3), (1926, .aload_n 2, 1), (1927, .invokevirtual 208, 3), (1930, .if_icmp .eq 314, 3), (1933, .iconst 0, 1), (1934, .ireturn, 1), (2244, .iinc 4 5, 3), (2247, .goto (-2224), 3)]
theorem tk_law_24 : ∀ x ∈ t_law_24, decode code x.1 = .ok x.2 := by decide +kernel
def C_law_24 (L : Nat) (xs : Nat → Int32) : Cfg := (t_law_24, csF, fl_L, [(205, 2, 5, 1, 0, fn_X7_wipe), (208, 2, 6, 1, 0, fn_X8_wipe)], in_L, lg_L, [], [], some (L, xs), some .boolean, 8)
theorem lok_24 (L : Nat) (xs : Nat → Int32) : LawC L xs (C_law_24 L xs) := ⟨⟨tk_law_24, csF_nd, flk_L, (List.forall_mem_cons.mpr ⟨cl_205, List.forall_mem_cons.mpr ⟨cl_208, fun _ h => absurd h List.not_mem_nil⟩⟩), ink_L, lgk_L, fun e h => absurd h List.not_mem_nil, fun h hh => absurd hh List.not_mem_nil⟩, rfl, rfl, rfl, rfl, rfl⟩
set_option maxRecDepth 100000 in
theorem bl_24_0 : (fun (L : Nat) (xs : Nat → Int32) (i : Int32) (M : Mem) => run (C_law_24 L xs) 1 (1922, [some (.ref 30), some (.ref 0), some (.ref 19), some (.ref 29), some (.int i), none, none, none], [], M, 0)) = (fun (L : Nat) (xs : Nat → Int32) (i : Int32) (M : Mem) => some (.inl (1923, [some (.ref 30), some (.ref 0), some (.ref 19), some (.ref 29), some (.int i), none, none, none], [.ref 0], M, 0))) := by rfl
set_option maxRecDepth 100000 in
theorem bl_24_1 : (fun (L : Nat) (xs : Nat → Int32) (i : Int32) (b : Int32) (M1 : Mem) => run (C_law_24 L xs) 1 (1926, [some (.ref 30), some (.ref 0), some (.ref 19), some (.ref 29), some (.int i), none, none, none], [.int b], M1, 0)) = (fun (L : Nat) (xs : Nat → Int32) (i : Int32) (b : Int32) (M1 : Mem) => some (.inl (1927, [some (.ref 30), some (.ref 0), some (.ref 19), some (.ref 29), some (.int i), none, none, none], [.ref 19, .int b], M1, 0))) := by rfl
set_option maxRecDepth 100000 in
theorem bl_24_2 : (fun (L : Nat) (xs : Nat → Int32) (i : Int32) (b : Int32) (M2 : Mem) => run (C_law_24 L xs) 1 (1930, [some (.ref 30), some (.ref 0), some (.ref 19), some (.ref 29), some (.int i), none, none, none], [.int b, .int b], M2, 0)) = (fun (L : Nat) (xs : Nat → Int32) (i : Int32) (b : Int32) (M2 : Mem) => some (.inl ((br (decide (b = b)) 1930 3 (314)), [some (.ref 30), some (.ref 0), some (.ref 19), some (.ref 29), some (.int i), none, none, none], [], M2, 0))) := by rfl
set_option maxRecDepth 100000 in
theorem bl_24_3 : (fun (L : Nat) (xs : Nat → Int32) (i : Int32) (M2 : Mem) => run (C_law_24 L xs) 2 (2244, [some (.ref 30), some (.ref 0), some (.ref 19), some (.ref 29), some (.int i), none, none, none], [], M2, 0)) = (fun (L : Nat) (xs : Nat → Int32) (i : Int32) (M2 : Mem) => some (.inl (23, [some (.ref 30), some (.ref 0), some (.ref 19), some (.ref 29), some (.int (i + (5 : Int32))), none, none, none], [], M2, 0))) := by rfl
theorem cz_24 {L : Nat} {xs : Nat → Int32} {i : Int32} {M : Mem} (h : Inv M) : ∃ (M' : Mem) (k : Nat), k ≤ 8 ∧ Inv M' ∧ Rto (C_law_24 L xs) (1922, loL i, [], M, 0) (23, loL (i + (5 : Int32)), [], M', k) := by
  obtain ⟨b, M1, M2, hF, hG, hI⟩ := cs_wipe h
  refine ⟨M2, 0, by decide, hI, ?_⟩
  refine Rto.trans (Rto.run 1 (congrFun (congrFun (congrFun (congrFun bl_24_0 L) xs) i) M)) ?_
  refine Rto.trans (Rto.run 1 (run_callV (v := some (.int b)) rfl rfl rfl rfl rfl hF)) ?_
  show Rto (C_law_24 L xs) (1926, [some (.ref 30), some (.ref 0), some (.ref 19), some (.ref 29), some (.int i), none, none, none], [.int b], M1, 0) _
  refine Rto.trans (Rto.run 1 (congrFun (congrFun (congrFun (congrFun (congrFun bl_24_1 L) xs) i) b) M1)) ?_
  refine Rto.trans (Rto.run 1 (run_callV (v := some (.int b)) rfl rfl rfl rfl rfl hG)) ?_
  show Rto (C_law_24 L xs) (1930, [some (.ref 30), some (.ref 0), some (.ref 19), some (.ref 29), some (.int i), none, none, none], [.int b, .int b], M2, 0) _
  refine Rto.trans (Rto.run 1 (congrFun (congrFun (congrFun (congrFun (congrFun bl_24_2 L) xs) i) b) M2)) ?_
  refine Rto.trans (Rto.brT (q := 2244) rfl rfl) ?_
  refine Rto.trans (Rto.run 2 (congrFun (congrFun (congrFun (congrFun bl_24_3 L) xs) i) M2)) ?_
  exact Rto.fgt [5, 6, 7] rfl
def t_law_25 : List (Nat × Instr × Nat) := [(1935, .aload_n 1, 1), (1936, .invokevirtual 209, 3), (1939, .aload_n 2, 1), (1940, .invokevirtual 212, 3), (1943, .if_icmp .eq 301, 3), (1946, .iconst 0, 1), (1947, .ireturn, 1), (2244, .iinc 4 5, 3), (2247, .goto (-2224), 3)]
theorem tk_law_25 : ∀ x ∈ t_law_25, decode code x.1 = .ok x.2 := by decide +kernel
def C_law_25 (L : Nat) (xs : Nat → Int32) : Cfg := (t_law_25, csF, fl_L, [(209, 2, 5, 1, 0, fn_X7_zero), (212, 2, 6, 1, 0, fn_X8_zero)], in_L, lg_L, [], [], some (L, xs), some .boolean, 8)
theorem lok_25 (L : Nat) (xs : Nat → Int32) : LawC L xs (C_law_25 L xs) := ⟨⟨tk_law_25, csF_nd, flk_L, (List.forall_mem_cons.mpr ⟨cl_209, List.forall_mem_cons.mpr ⟨cl_212, fun _ h => absurd h List.not_mem_nil⟩⟩), ink_L, lgk_L, fun e h => absurd h List.not_mem_nil, fun h hh => absurd hh List.not_mem_nil⟩, rfl, rfl, rfl, rfl, rfl⟩
set_option maxRecDepth 100000 in
theorem bl_25_0 : (fun (L : Nat) (xs : Nat → Int32) (i : Int32) (M : Mem) => run (C_law_25 L xs) 1 (1935, [some (.ref 30), some (.ref 0), some (.ref 19), some (.ref 29), some (.int i), none, none, none], [], M, 0)) = (fun (L : Nat) (xs : Nat → Int32) (i : Int32) (M : Mem) => some (.inl (1936, [some (.ref 30), some (.ref 0), some (.ref 19), some (.ref 29), some (.int i), none, none, none], [.ref 0], M, 0))) := by rfl
set_option maxRecDepth 100000 in
theorem bl_25_1 : (fun (L : Nat) (xs : Nat → Int32) (i : Int32) (b : Int32) (M1 : Mem) => run (C_law_25 L xs) 1 (1939, [some (.ref 30), some (.ref 0), some (.ref 19), some (.ref 29), some (.int i), none, none, none], [.int b], M1, 0)) = (fun (L : Nat) (xs : Nat → Int32) (i : Int32) (b : Int32) (M1 : Mem) => some (.inl (1940, [some (.ref 30), some (.ref 0), some (.ref 19), some (.ref 29), some (.int i), none, none, none], [.ref 19, .int b], M1, 0))) := by rfl
set_option maxRecDepth 100000 in
theorem bl_25_2 : (fun (L : Nat) (xs : Nat → Int32) (i : Int32) (b : Int32) (M2 : Mem) => run (C_law_25 L xs) 1 (1943, [some (.ref 30), some (.ref 0), some (.ref 19), some (.ref 29), some (.int i), none, none, none], [.int b, .int b], M2, 0)) = (fun (L : Nat) (xs : Nat → Int32) (i : Int32) (b : Int32) (M2 : Mem) => some (.inl ((br (decide (b = b)) 1943 3 (301)), [some (.ref 30), some (.ref 0), some (.ref 19), some (.ref 29), some (.int i), none, none, none], [], M2, 0))) := by rfl
set_option maxRecDepth 100000 in
theorem bl_25_3 : (fun (L : Nat) (xs : Nat → Int32) (i : Int32) (M2 : Mem) => run (C_law_25 L xs) 2 (2244, [some (.ref 30), some (.ref 0), some (.ref 19), some (.ref 29), some (.int i), none, none, none], [], M2, 0)) = (fun (L : Nat) (xs : Nat → Int32) (i : Int32) (M2 : Mem) => some (.inl (23, [some (.ref 30), some (.ref 0), some (.ref 19), some (.ref 29), some (.int (i + (5 : Int32))), none, none, none], [], M2, 0))) := by rfl
theorem cz_25 {L : Nat} {xs : Nat → Int32} {i : Int32} {M : Mem} (h : Inv M) : ∃ (M' : Mem) (k : Nat), k ≤ 8 ∧ Inv M' ∧ Rto (C_law_25 L xs) (1935, loL i, [], M, 0) (23, loL (i + (5 : Int32)), [], M', k) := by
  obtain ⟨b, M1, M2, hF, hG, hI⟩ := cs_zero h
  refine ⟨M2, 0, by decide, hI, ?_⟩
  refine Rto.trans (Rto.run 1 (congrFun (congrFun (congrFun (congrFun bl_25_0 L) xs) i) M)) ?_
  refine Rto.trans (Rto.run 1 (run_callV (v := some (.int b)) rfl rfl rfl rfl rfl hF)) ?_
  show Rto (C_law_25 L xs) (1939, [some (.ref 30), some (.ref 0), some (.ref 19), some (.ref 29), some (.int i), none, none, none], [.int b], M1, 0) _
  refine Rto.trans (Rto.run 1 (congrFun (congrFun (congrFun (congrFun (congrFun bl_25_1 L) xs) i) b) M1)) ?_
  refine Rto.trans (Rto.run 1 (run_callV (v := some (.int b)) rfl rfl rfl rfl rfl hG)) ?_
  show Rto (C_law_25 L xs) (1943, [some (.ref 30), some (.ref 0), some (.ref 19), some (.ref 29), some (.int i), none, none, none], [.int b, .int b], M2, 0) _
  refine Rto.trans (Rto.run 1 (congrFun (congrFun (congrFun (congrFun (congrFun bl_25_2 L) xs) i) b) M2)) ?_
  refine Rto.trans (Rto.brT (q := 2244) rfl rfl) ?_
  refine Rto.trans (Rto.run 2 (congrFun (congrFun (congrFun (congrFun bl_25_3 L) xs) i) M2)) ?_
  exact Rto.fgt [5, 6, 7] rfl
def t_law_26 : List (Nat × Instr × Nat) := [(1948, .aload_n 1, 1), (1949, .aload_n 3, 1), (1950, .invokestatic 213, 3), (1953, .istore 5, 2), (1955, .aload_n 2, 1), (1956, .invokevirtual 216, 3), (1959, .istore 6, 2), (1961, .aload_n 2, 1), (1962, .invokevirtual 125, 3), (1965, .iload 5, 2), (1967, .if_icmp .eq 5, 3), (1970, .iconst 0, 1), (1971, .ireturn, 1), (1972, .iload 5, 2), (1974, .ifCond .ne 15, 3), (1977, .aload_n 3, 1), (1978, .iconst 0, 1), (1979, .laload, 1), (1980, .iload 6, 2), (1982, .i2l, 1), (1983, .lcmp, 1), (1984, .ifCond .eq 5, 3), (1987, .iconst 0, 1), (1988, .ireturn, 1), (1989, .goto 255, 3), (2244, .iinc 4 5, 3), (2247, .goto (-2224), 3)]
theorem tk_law_26 : ∀ x ∈ t_law_26, decode code x.1 = .ok x.2 := by decide +kernel
def C_law_26 (L : Nat) (xs : Nat → Int32) : Cfg := (t_law_26, csF, fl_L, [(125, 2, 6, 1, 0, fn_X8_thrown), (213, 0, 0, 2, 1, fn_L_constant), (216, 2, 6, 1, 0, fn_X8_constant)], in_L, lg_L, [], [], some (L, xs), some .boolean, 8)
theorem lok_26 (L : Nat) (xs : Nat → Int32) : LawC L xs (C_law_26 L xs) := ⟨⟨tk_law_26, csF_nd, flk_L, (List.forall_mem_cons.mpr ⟨cl_125, List.forall_mem_cons.mpr ⟨cl_213, List.forall_mem_cons.mpr ⟨cl_216, fun _ h => absurd h List.not_mem_nil⟩⟩⟩), ink_L, lgk_L, fun e h => absurd h List.not_mem_nil, fun h hh => absurd hh List.not_mem_nil⟩, rfl, rfl, rfl, rfl, rfl⟩
set_option maxRecDepth 100000 in
theorem bl_26_0 : (fun (L : Nat) (xs : Nat → Int32) (i : Int32) (M : Mem) => run (C_law_26 L xs) 2 (1948, [some (.ref 30), some (.ref 0), some (.ref 19), some (.ref 29), some (.int i), none, none, none], [], M, 0)) = (fun (L : Nat) (xs : Nat → Int32) (i : Int32) (M : Mem) => some (.inl (1950, [some (.ref 30), some (.ref 0), some (.ref 19), some (.ref 29), some (.int i), none, none, none], [.ref 29, .ref 0], M, 0))) := by rfl
set_option maxRecDepth 100000 in
theorem bl_26_1 : (fun (L : Nat) (xs : Nat → Int32) (i : Int32) (kk : Int32) (M1 : Mem) => run (C_law_26 L xs) 2 (1953, [some (.ref 30), some (.ref 0), some (.ref 19), some (.ref 29), some (.int i), none, none, none], [.int kk], M1, 1)) = (fun (L : Nat) (xs : Nat → Int32) (i : Int32) (kk : Int32) (M1 : Mem) => some (.inl (1956, [some (.ref 30), some (.ref 0), some (.ref 19), some (.ref 29), some (.int i), some (.int kk), none, none], [.ref 19], M1, 1))) := by rfl
set_option maxRecDepth 100000 in
theorem bl_26_2 : (fun (L : Nat) (xs : Nat → Int32) (i : Int32) (kk : Int32) (b : Int32) (M2 : Mem) => run (C_law_26 L xs) 4 (1959, [some (.ref 30), some (.ref 0), some (.ref 19), some (.ref 29), some (.int i), some (.int kk), none, none], [.int b], M2, 1)) = (fun (L : Nat) (xs : Nat → Int32) (i : Int32) (kk : Int32) (b : Int32) (M2 : Mem) => some (.inl (1967, [some (.ref 30), some (.ref 0), some (.ref 19), some (.ref 29), some (.int i), some (.int kk), some (.int b), none], [.int kk, .int (M2.1 19 15)], M2, 1))) := by rfl
set_option maxRecDepth 100000 in
theorem bl_26_3 : (fun (L : Nat) (xs : Nat → Int32) (i : Int32) (kk : Int32) (b : Int32) (M2 : Mem) => run (C_law_26 L xs) 1 (1967, [some (.ref 30), some (.ref 0), some (.ref 19), some (.ref 29), some (.int i), some (.int kk), some (.int b), none], [.int kk, .int (M2.1 19 15)], M2, 1)) = (fun (L : Nat) (xs : Nat → Int32) (i : Int32) (kk : Int32) (b : Int32) (M2 : Mem) => some (.inl ((br (decide ((M2.1 19 15) = kk)) 1967 3 (5)), [some (.ref 30), some (.ref 0), some (.ref 19), some (.ref 29), some (.int i), some (.int kk), some (.int b), none], [], M2, 1))) := by rfl
set_option maxRecDepth 100000 in
theorem bl_26_4 : (fun (L : Nat) (xs : Nat → Int32) (i : Int32) (kk : Int32) (b : Int32) (M2 : Mem) => run (C_law_26 L xs) 1 (1972, [some (.ref 30), some (.ref 0), some (.ref 19), some (.ref 29), some (.int i), some (.int kk), some (.int b), none], [], M2, 1)) = (fun (L : Nat) (xs : Nat → Int32) (i : Int32) (kk : Int32) (b : Int32) (M2 : Mem) => some (.inl (1974, [some (.ref 30), some (.ref 0), some (.ref 19), some (.ref 29), some (.int i), some (.int kk), some (.int b), none], [.int kk], M2, 1))) := by rfl
set_option maxRecDepth 100000 in
theorem bl_26_5 : (fun (L : Nat) (xs : Nat → Int32) (i : Int32) (kk : Int32) (b : Int32) (M2 : Mem) => run (C_law_26 L xs) 1 (1974, [some (.ref 30), some (.ref 0), some (.ref 19), some (.ref 29), some (.int i), some (.int kk), some (.int b), none], [.int kk], M2, 1)) = (fun (L : Nat) (xs : Nat → Int32) (i : Int32) (kk : Int32) (b : Int32) (M2 : Mem) => some (.inl ((br (!decide (kk = 0)) 1974 3 (15)), [some (.ref 30), some (.ref 0), some (.ref 19), some (.ref 29), some (.int i), some (.int kk), some (.int b), none], [], M2, 1))) := by rfl
set_option maxRecDepth 100000 in
theorem bl_26_6 : (fun (L : Nat) (xs : Nat → Int32) (i : Int32) (kk : Int32) (b : Int32) (M2 : Mem) => run (C_law_26 L xs) 2 (1977, [some (.ref 30), some (.ref 0), some (.ref 19), some (.ref 29), some (.int i), some (.int kk), some (.int b), none], [], M2, 1)) = (fun (L : Nat) (xs : Nat → Int32) (i : Int32) (kk : Int32) (b : Int32) (M2 : Mem) => some (.inl (1979, [some (.ref 30), some (.ref 0), some (.ref 19), some (.ref 29), some (.int i), some (.int kk), some (.int b), none], [.int (0 : Int32), .ref 29], M2, 1))) := by rfl
set_option maxRecDepth 100000 in
theorem bl_26_7 : (fun (L : Nat) (xs : Nat → Int32) (i : Int32) (kk : Int32) (b : Int32) (M2 : Mem) => run (C_law_26 L xs) 3 (1980, [some (.ref 30), some (.ref 0), some (.ref 19), some (.ref 29), some (.int i), some (.int kk), some (.int b), none], [.long (M2.2 29 0)], M2, 1)) = (fun (L : Nat) (xs : Nat → Int32) (i : Int32) (kk : Int32) (b : Int32) (M2 : Mem) => some (.inl (1984, [some (.ref 30), some (.ref 0), some (.ref 19), some (.ref 29), some (.int i), some (.int kk), some (.int b), none], [.int (lg_cmp (M2.2 29 0) b.toInt64)], M2, 1))) := by rfl
set_option maxRecDepth 100000 in
theorem bl_26_8 : (fun (L : Nat) (xs : Nat → Int32) (i : Int32) (kk : Int32) (b : Int32) (M2 : Mem) => run (C_law_26 L xs) 1 (1984, [some (.ref 30), some (.ref 0), some (.ref 19), some (.ref 29), some (.int i), some (.int kk), some (.int b), none], [.int (lg_cmp (M2.2 29 0) b.toInt64)], M2, 1)) = (fun (L : Nat) (xs : Nat → Int32) (i : Int32) (kk : Int32) (b : Int32) (M2 : Mem) => some (.inl ((br (decide ((lg_cmp (M2.2 29 0) b.toInt64) = 0)) 1984 3 (5)), [some (.ref 30), some (.ref 0), some (.ref 19), some (.ref 29), some (.int i), some (.int kk), some (.int b), none], [], M2, 1))) := by rfl
set_option maxRecDepth 100000 in
theorem bl_26_9 : (fun (L : Nat) (xs : Nat → Int32) (i : Int32) (kk : Int32) (b : Int32) (M2 : Mem) => run (C_law_26 L xs) 1 (1989, [some (.ref 30), some (.ref 0), some (.ref 19), some (.ref 29), some (.int i), some (.int kk), some (.int b), none], [], M2, 1)) = (fun (L : Nat) (xs : Nat → Int32) (i : Int32) (kk : Int32) (b : Int32) (M2 : Mem) => some (.inl (2244, [some (.ref 30), some (.ref 0), some (.ref 19), some (.ref 29), some (.int i), some (.int kk), some (.int b), none], [], M2, 1))) := by rfl
set_option maxRecDepth 100000 in
theorem bl_26_10 : (fun (L : Nat) (xs : Nat → Int32) (i : Int32) (kk : Int32) (b : Int32) (M2 : Mem) => run (C_law_26 L xs) 2 (2244, [some (.ref 30), some (.ref 0), some (.ref 19), some (.ref 29), some (.int i), some (.int kk), some (.int b), none], [], M2, 1)) = (fun (L : Nat) (xs : Nat → Int32) (i : Int32) (kk : Int32) (b : Int32) (M2 : Mem) => some (.inl (23, [some (.ref 30), some (.ref 0), some (.ref 19), some (.ref 29), some (.int (i + (5 : Int32))), some (.int kk), some (.int b), none], [], M2, 1))) := by rfl
set_option maxRecDepth 100000 in
theorem bl_26_11 : (fun (L : Nat) (xs : Nat → Int32) (i : Int32) (kk : Int32) (b : Int32) (M2 : Mem) => run (C_law_26 L xs) 1 (1989, [some (.ref 30), some (.ref 0), some (.ref 19), some (.ref 29), some (.int i), some (.int kk), some (.int b), none], [], M2, 1)) = (fun (L : Nat) (xs : Nat → Int32) (i : Int32) (kk : Int32) (b : Int32) (M2 : Mem) => some (.inl (2244, [some (.ref 30), some (.ref 0), some (.ref 19), some (.ref 29), some (.int i), some (.int kk), some (.int b), none], [], M2, 1))) := by rfl
set_option maxRecDepth 100000 in
theorem bl_26_12 : (fun (L : Nat) (xs : Nat → Int32) (i : Int32) (kk : Int32) (b : Int32) (M2 : Mem) => run (C_law_26 L xs) 2 (2244, [some (.ref 30), some (.ref 0), some (.ref 19), some (.ref 29), some (.int i), some (.int kk), some (.int b), none], [], M2, 1)) = (fun (L : Nat) (xs : Nat → Int32) (i : Int32) (kk : Int32) (b : Int32) (M2 : Mem) => some (.inl (23, [some (.ref 30), some (.ref 0), some (.ref 19), some (.ref 29), some (.int (i + (5 : Int32))), some (.int kk), some (.int b), none], [], M2, 1))) := by rfl
theorem cz_26 {L : Nat} {xs : Nat → Int32} {i : Int32} {M : Mem} (h : Inv M) : ∃ (M' : Mem) (k : Nat), k ≤ 8 ∧ Inv M' ∧ Rto (C_law_26 L xs) (1948, loL i, [], M, 0) (23, loL (i + (5 : Int32)), [], M', k) := by
  obtain ⟨kk, b, M1, M2, hF, hG, ht, ho, hI⟩ := cs_constant h
  refine ⟨M2, 1, by decide, hI, ?_⟩
  refine Rto.trans (Rto.run 2 (congrFun (congrFun (congrFun (congrFun bl_26_0 L) xs) i) M)) ?_
  refine Rto.trans (Rto.run 1 (run_callS (v := some (.int kk)) rfl rfl rfl rfl hF)) ?_
  show Rto (C_law_26 L xs) (1953, [some (.ref 30), some (.ref 0), some (.ref 19), some (.ref 29), some (.int i), none, none, none], [.int kk], M1, 1) _
  refine Rto.trans (Rto.run 2 (congrFun (congrFun (congrFun (congrFun (congrFun bl_26_1 L) xs) i) kk) M1)) ?_
  refine Rto.trans (Rto.run 1 (run_callV (v := some (.int b)) rfl rfl rfl rfl rfl hG)) ?_
  show Rto (C_law_26 L xs) (1959, [some (.ref 30), some (.ref 0), some (.ref 19), some (.ref 29), some (.int i), some (.int kk), none, none], [.int b], M2, 1) _
  refine Rto.trans (Rto.run 4 (congrFun (congrFun (congrFun (congrFun (congrFun (congrFun bl_26_2 L) xs) i) kk) b) M2)) ?_
  refine Rto.trans (Rto.run 1 (congrFun (congrFun (congrFun (congrFun (congrFun (congrFun bl_26_3 L) xs) i) kk) b) M2)) ?_
  refine Rto.trans (Rto.brT (q := 1972) ht rfl) ?_
  refine Rto.trans (Rto.run 1 (congrFun (congrFun (congrFun (congrFun (congrFun (congrFun bl_26_4 L) xs) i) kk) b) M2)) ?_
  refine Rto.trans (Rto.run 1 (congrFun (congrFun (congrFun (congrFun (congrFun (congrFun bl_26_5 L) xs) i) kk) b) M2)) ?_
  by_cases hk : kk = 0
  · refine Rto.trans (Rto.brNF (q := 1977) hk rfl) ?_
    refine Rto.trans (Rto.run 2 (congrFun (congrFun (congrFun (congrFun (congrFun (congrFun bl_26_6 L) xs) i) kk) b) M2)) ?_
    refine Rto.trans (Rto.run 1 (run_out rfl rfl rfl)) ?_
    show Rto (C_law_26 L xs) (1980, [some (.ref 30), some (.ref 0), some (.ref 19), some (.ref 29), some (.int i), some (.int kk), some (.int b), none], [.long (M2.2 29 0)], M2, 1) _
    refine Rto.trans (Rto.run 3 (congrFun (congrFun (congrFun (congrFun (congrFun (congrFun bl_26_7 L) xs) i) kk) b) M2)) ?_
    refine Rto.trans (Rto.run 1 (congrFun (congrFun (congrFun (congrFun (congrFun (congrFun bl_26_8 L) xs) i) kk) b) M2)) ?_
    refine Rto.trans (Rto.brT (q := 1989) (lg_cmp_eq _ _ |>.mpr (ho hk)) rfl) ?_
    refine Rto.trans (Rto.run 1 (congrFun (congrFun (congrFun (congrFun (congrFun (congrFun bl_26_9 L) xs) i) kk) b) M2)) ?_
    refine Rto.trans (Rto.run 2 (congrFun (congrFun (congrFun (congrFun (congrFun (congrFun bl_26_10 L) xs) i) kk) b) M2)) ?_
    exact Rto.fgt [5, 6, 7] rfl
  · refine Rto.trans (Rto.brNT (q := 1989) hk rfl) ?_
    refine Rto.trans (Rto.run 1 (congrFun (congrFun (congrFun (congrFun (congrFun (congrFun bl_26_11 L) xs) i) kk) b) M2)) ?_
    refine Rto.trans (Rto.run 2 (congrFun (congrFun (congrFun (congrFun (congrFun (congrFun bl_26_12 L) xs) i) kk) b) M2)) ?_
    exact Rto.fgt [5, 6, 7] rfl
def t_law_27 : List (Nat × Instr × Nat) := [(1992, .aload_n 1, 1), (1993, .aload_n 0, 1), (1994, .iload 4, 2), (1996, .iconst 1, 1), (1997, .iadd, 1), (1998, .iaload, 1), (1999, .aload_n 0, 1), (2000, .iload 4, 2), (2002, .iconst 2, 1), (2003, .iadd, 1), (2004, .iaload, 1), (2005, .invokestatic 217, 3), (2008, .istore 5, 2), (2010, .aload_n 2, 1), (2011, .aload_n 0, 1), (2012, .iload 4, 2), (2014, .iconst 1, 1), (2015, .iadd, 1), (2016, .iaload, 1), (2017, .aload_n 0, 1), (2018, .iload 4, 2), (2020, .iconst 2, 1), (2021, .iadd, 1), (2022, .iaload, 1), (2023, .invokevirtual 220, 3), (2026, .aload_n 2, 1), (2027, .invokevirtual 125, 3), (2030, .iload 5, 2), (2032, .if_icmp .eq 5, 3), (2035, .iconst 0, 1), (2036, .ireturn, 1), (2037, .goto 207, 3), (2244, .iinc 4 5, 3), (2247, .goto (-2224), 3)]
theorem tk_law_27 : ∀ x ∈ t_law_27, decode code x.1 = .ok x.2 := by decide +kernel
def C_law_27 (L : Nat) (xs : Nat → Int32) : Cfg := (t_law_27, csF, fl_L, [(125, 2, 6, 1, 0, fn_X8_thrown), (217, 0, 0, 3, 1, fn_L_root), (220, 2, 6, 3, 0, fn_X8_root)], in_L, lg_L, [], [], some (L, xs), some .boolean, 8)
theorem lok_27 (L : Nat) (xs : Nat → Int32) : LawC L xs (C_law_27 L xs) := ⟨⟨tk_law_27, csF_nd, flk_L, (List.forall_mem_cons.mpr ⟨cl_125, List.forall_mem_cons.mpr ⟨cl_217, List.forall_mem_cons.mpr ⟨cl_220, fun _ h => absurd h List.not_mem_nil⟩⟩⟩), ink_L, lgk_L, fun e h => absurd h List.not_mem_nil, fun h hh => absurd hh List.not_mem_nil⟩, rfl, rfl, rfl, rfl, rfl⟩
set_option maxRecDepth 100000 in
theorem bl_27_0 : (fun (L : Nat) (xs : Nat → Int32) (i : Int32) (M : Mem) => run (C_law_27 L xs) 5 (1992, [some (.ref 30), some (.ref 0), some (.ref 19), some (.ref 29), some (.int i), none, none, none], [], M, 0)) = (fun (L : Nat) (xs : Nat → Int32) (i : Int32) (M : Mem) => some (.inl (1998, [some (.ref 30), some (.ref 0), some (.ref 19), some (.ref 29), some (.int i), none, none, none], [.int (i + (1 : Int32)), .ref 30, .ref 0], M, 0))) := by rfl
set_option maxRecDepth 100000 in
theorem bl_27_1 : (fun (L : Nat) (xs : Nat → Int32) (i : Int32) (M : Mem) => run (C_law_27 L xs) 4 (1999, [some (.ref 30), some (.ref 0), some (.ref 19), some (.ref 29), some (.int i), none, none, none], [.int (xs (ix (i + (1 : Int32)))), .ref 0], M, 0)) = (fun (L : Nat) (xs : Nat → Int32) (i : Int32) (M : Mem) => some (.inl (2004, [some (.ref 30), some (.ref 0), some (.ref 19), some (.ref 29), some (.int i), none, none, none], [.int (i + (2 : Int32)), .ref 30, .int (xs (ix (i + (1 : Int32)))), .ref 0], M, 0))) := by rfl
set_option maxRecDepth 100000 in
theorem bl_27_2 : (fun (L : Nat) (xs : Nat → Int32) (i : Int32) (kk : Int32) (M1 : Mem) => run (C_law_27 L xs) 6 (2008, [some (.ref 30), some (.ref 0), some (.ref 19), some (.ref 29), some (.int i), none, none, none], [.int kk], M1, 1)) = (fun (L : Nat) (xs : Nat → Int32) (i : Int32) (kk : Int32) (M1 : Mem) => some (.inl (2016, [some (.ref 30), some (.ref 0), some (.ref 19), some (.ref 29), some (.int i), some (.int kk), none, none], [.int (i + (1 : Int32)), .ref 30, .ref 19], M1, 1))) := by rfl
set_option maxRecDepth 100000 in
theorem bl_27_3 : (fun (L : Nat) (xs : Nat → Int32) (i : Int32) (kk : Int32) (M1 : Mem) => run (C_law_27 L xs) 4 (2017, [some (.ref 30), some (.ref 0), some (.ref 19), some (.ref 29), some (.int i), some (.int kk), none, none], [.int (xs (ix (i + (1 : Int32)))), .ref 19], M1, 1)) = (fun (L : Nat) (xs : Nat → Int32) (i : Int32) (kk : Int32) (M1 : Mem) => some (.inl (2022, [some (.ref 30), some (.ref 0), some (.ref 19), some (.ref 29), some (.int i), some (.int kk), none, none], [.int (i + (2 : Int32)), .ref 30, .int (xs (ix (i + (1 : Int32)))), .ref 19], M1, 1))) := by rfl
set_option maxRecDepth 100000 in
theorem bl_27_4 : (fun (L : Nat) (xs : Nat → Int32) (i : Int32) (kk : Int32) (M2 : Mem) => run (C_law_27 L xs) 3 (2026, [some (.ref 30), some (.ref 0), some (.ref 19), some (.ref 29), some (.int i), some (.int kk), none, none], [], M2, 1)) = (fun (L : Nat) (xs : Nat → Int32) (i : Int32) (kk : Int32) (M2 : Mem) => some (.inl (2032, [some (.ref 30), some (.ref 0), some (.ref 19), some (.ref 29), some (.int i), some (.int kk), none, none], [.int kk, .int (M2.1 19 15)], M2, 1))) := by rfl
set_option maxRecDepth 100000 in
theorem bl_27_5 : (fun (L : Nat) (xs : Nat → Int32) (i : Int32) (kk : Int32) (M2 : Mem) => run (C_law_27 L xs) 1 (2032, [some (.ref 30), some (.ref 0), some (.ref 19), some (.ref 29), some (.int i), some (.int kk), none, none], [.int kk, .int (M2.1 19 15)], M2, 1)) = (fun (L : Nat) (xs : Nat → Int32) (i : Int32) (kk : Int32) (M2 : Mem) => some (.inl ((br (decide ((M2.1 19 15) = kk)) 2032 3 (5)), [some (.ref 30), some (.ref 0), some (.ref 19), some (.ref 29), some (.int i), some (.int kk), none, none], [], M2, 1))) := by rfl
set_option maxRecDepth 100000 in
theorem bl_27_6 : (fun (L : Nat) (xs : Nat → Int32) (i : Int32) (kk : Int32) (M2 : Mem) => run (C_law_27 L xs) 1 (2037, [some (.ref 30), some (.ref 0), some (.ref 19), some (.ref 29), some (.int i), some (.int kk), none, none], [], M2, 1)) = (fun (L : Nat) (xs : Nat → Int32) (i : Int32) (kk : Int32) (M2 : Mem) => some (.inl (2244, [some (.ref 30), some (.ref 0), some (.ref 19), some (.ref 29), some (.int i), some (.int kk), none, none], [], M2, 1))) := by rfl
set_option maxRecDepth 100000 in
theorem bl_27_7 : (fun (L : Nat) (xs : Nat → Int32) (i : Int32) (kk : Int32) (M2 : Mem) => run (C_law_27 L xs) 2 (2244, [some (.ref 30), some (.ref 0), some (.ref 19), some (.ref 29), some (.int i), some (.int kk), none, none], [], M2, 1)) = (fun (L : Nat) (xs : Nat → Int32) (i : Int32) (kk : Int32) (M2 : Mem) => some (.inl (23, [some (.ref 30), some (.ref 0), some (.ref 19), some (.ref 29), some (.int (i + (5 : Int32))), some (.int kk), none, none], [], M2, 1))) := by rfl
theorem cz_27 {L : Nat} {xs : Nat → Int32} {i : Int32} {M : Mem} (h : Inv M) (i1 : inb (i + (1 : Int32)) L = true) (i2 : inb (i + (2 : Int32)) L = true) : ∃ (M' : Mem) (k : Nat), k ≤ 8 ∧ Inv M' ∧ Rto (C_law_27 L xs) (1992, loL i, [], M, 0) (23, loL (i + (5 : Int32)), [], M', k) := by
  obtain ⟨kk, M1, M2, hF, hG, ht, hI⟩ := cs_root h (xs (ix (i + (1 : Int32)))) (xs (ix (i + (2 : Int32))))
  refine ⟨M2, 1, by decide, hI, ?_⟩
  refine Rto.trans (Rto.run 5 (congrFun (congrFun (congrFun (congrFun bl_27_0 L) xs) i) M)) ?_
  refine Rto.trans (Rto.run 1 (run_ld rfl rfl rfl i1)) ?_
  show Rto (C_law_27 L xs) (1999, [some (.ref 30), some (.ref 0), some (.ref 19), some (.ref 29), some (.int i), none, none, none], [.int (xs (ix (i + (1 : Int32)))), .ref 0], M, 0) _
  refine Rto.trans (Rto.run 4 (congrFun (congrFun (congrFun (congrFun bl_27_1 L) xs) i) M)) ?_
  refine Rto.trans (Rto.run 1 (run_ld rfl rfl rfl i2)) ?_
  show Rto (C_law_27 L xs) (2005, [some (.ref 30), some (.ref 0), some (.ref 19), some (.ref 29), some (.int i), none, none, none], [.int (xs (ix (i + (2 : Int32)))), .int (xs (ix (i + (1 : Int32)))), .ref 0], M, 0) _
  refine Rto.trans (Rto.run 1 (run_callS (v := some (.int kk)) rfl rfl rfl rfl hF)) ?_
  show Rto (C_law_27 L xs) (2008, [some (.ref 30), some (.ref 0), some (.ref 19), some (.ref 29), some (.int i), none, none, none], [.int kk], M1, 1) _
  refine Rto.trans (Rto.run 6 (congrFun (congrFun (congrFun (congrFun (congrFun bl_27_2 L) xs) i) kk) M1)) ?_
  refine Rto.trans (Rto.run 1 (run_ld rfl rfl rfl i1)) ?_
  show Rto (C_law_27 L xs) (2017, [some (.ref 30), some (.ref 0), some (.ref 19), some (.ref 29), some (.int i), some (.int kk), none, none], [.int (xs (ix (i + (1 : Int32)))), .ref 19], M1, 1) _
  refine Rto.trans (Rto.run 4 (congrFun (congrFun (congrFun (congrFun (congrFun bl_27_3 L) xs) i) kk) M1)) ?_
  refine Rto.trans (Rto.run 1 (run_ld rfl rfl rfl i2)) ?_
  show Rto (C_law_27 L xs) (2023, [some (.ref 30), some (.ref 0), some (.ref 19), some (.ref 29), some (.int i), some (.int kk), none, none], [.int (xs (ix (i + (2 : Int32)))), .int (xs (ix (i + (1 : Int32)))), .ref 19], M1, 1) _
  refine Rto.trans (Rto.run 1 (run_callV (v := none) rfl rfl rfl rfl rfl hG)) ?_
  show Rto (C_law_27 L xs) (2026, [some (.ref 30), some (.ref 0), some (.ref 19), some (.ref 29), some (.int i), some (.int kk), none, none], [], M2, 1) _
  refine Rto.trans (Rto.run 3 (congrFun (congrFun (congrFun (congrFun (congrFun bl_27_4 L) xs) i) kk) M2)) ?_
  refine Rto.trans (Rto.run 1 (congrFun (congrFun (congrFun (congrFun (congrFun bl_27_5 L) xs) i) kk) M2)) ?_
  refine Rto.trans (Rto.brT (q := 2037) ht rfl) ?_
  refine Rto.trans (Rto.run 1 (congrFun (congrFun (congrFun (congrFun (congrFun bl_27_6 L) xs) i) kk) M2)) ?_
  refine Rto.trans (Rto.run 2 (congrFun (congrFun (congrFun (congrFun (congrFun bl_27_7 L) xs) i) kk) M2)) ?_
  exact Rto.fgt [5, 6, 7] rfl
def t_law_28 : List (Nat × Instr × Nat) := [(2040, .aload_n 1, 1), (2041, .aload_n 0, 1), (2042, .iload 4, 2), (2044, .iconst 1, 1), (2045, .iadd, 1), (2046, .iaload, 1), (2047, .aload_n 0, 1), (2048, .iload 4, 2), (2050, .iconst 2, 1), (2051, .iadd, 1), (2052, .iaload, 1), (2053, .aload_n 3, 1), (2054, .invokestatic 221, 3), (2057, .istore 5, 2), (2059, .aload_n 2, 1), (2060, .aload_n 0, 1), (2061, .iload 4, 2), (2063, .iconst 1, 1), (2064, .iadd, 1), (2065, .iaload, 1), (2066, .aload_n 0, 1), (2067, .iload 4, 2), (2069, .iconst 2, 1), (2070, .iadd, 1), (2071, .iaload, 1), (2072, .invokevirtual 223, 3), (2075, .istore 6, 2), (2077, .aload_n 2, 1), (2078, .invokevirtual 125, 3), (2081, .iload 5, 2), (2083, .if_icmp .eq 5, 3), (2086, .iconst 0, 1), (2087, .ireturn, 1), (2088, .iload 5, 2), (2090, .ifCond .ne 15, 3), (2093, .aload_n 3, 1), (2094, .iconst 0, 1), (2095, .laload, 1), (2096, .iload 6, 2), (2098, .i2l, 1), (2099, .lcmp, 1), (2100, .ifCond .eq 5, 3), (2103, .iconst 0, 1), (2104, .ireturn, 1), (2105, .goto 139, 3), (2244, .iinc 4 5, 3), (2247, .goto (-2224), 3)]
theorem tk_law_28 : ∀ x ∈ t_law_28, decode code x.1 = .ok x.2 := by decide +kernel
def C_law_28 (L : Nat) (xs : Nat → Int32) : Cfg := (t_law_28, csF, fl_L, [(125, 2, 6, 1, 0, fn_X8_thrown), (221, 0, 0, 4, 2, fn_L_transform), (223, 2, 6, 3, 0, fn_X8_transform)], in_L, lg_L, [], [], some (L, xs), some .boolean, 8)
theorem lok_28 (L : Nat) (xs : Nat → Int32) : LawC L xs (C_law_28 L xs) := ⟨⟨tk_law_28, csF_nd, flk_L, (List.forall_mem_cons.mpr ⟨cl_125, List.forall_mem_cons.mpr ⟨cl_221, List.forall_mem_cons.mpr ⟨cl_223, fun _ h => absurd h List.not_mem_nil⟩⟩⟩), ink_L, lgk_L, fun e h => absurd h List.not_mem_nil, fun h hh => absurd hh List.not_mem_nil⟩, rfl, rfl, rfl, rfl, rfl⟩
set_option maxRecDepth 100000 in
theorem bl_28_0 : (fun (L : Nat) (xs : Nat → Int32) (i : Int32) (M : Mem) => run (C_law_28 L xs) 5 (2040, [some (.ref 30), some (.ref 0), some (.ref 19), some (.ref 29), some (.int i), none, none, none], [], M, 0)) = (fun (L : Nat) (xs : Nat → Int32) (i : Int32) (M : Mem) => some (.inl (2046, [some (.ref 30), some (.ref 0), some (.ref 19), some (.ref 29), some (.int i), none, none, none], [.int (i + (1 : Int32)), .ref 30, .ref 0], M, 0))) := by rfl
set_option maxRecDepth 100000 in
theorem bl_28_1 : (fun (L : Nat) (xs : Nat → Int32) (i : Int32) (M : Mem) => run (C_law_28 L xs) 4 (2047, [some (.ref 30), some (.ref 0), some (.ref 19), some (.ref 29), some (.int i), none, none, none], [.int (xs (ix (i + (1 : Int32)))), .ref 0], M, 0)) = (fun (L : Nat) (xs : Nat → Int32) (i : Int32) (M : Mem) => some (.inl (2052, [some (.ref 30), some (.ref 0), some (.ref 19), some (.ref 29), some (.int i), none, none, none], [.int (i + (2 : Int32)), .ref 30, .int (xs (ix (i + (1 : Int32)))), .ref 0], M, 0))) := by rfl
set_option maxRecDepth 100000 in
theorem bl_28_2 : (fun (L : Nat) (xs : Nat → Int32) (i : Int32) (M : Mem) => run (C_law_28 L xs) 1 (2053, [some (.ref 30), some (.ref 0), some (.ref 19), some (.ref 29), some (.int i), none, none, none], [.int (xs (ix (i + (2 : Int32)))), .int (xs (ix (i + (1 : Int32)))), .ref 0], M, 0)) = (fun (L : Nat) (xs : Nat → Int32) (i : Int32) (M : Mem) => some (.inl (2054, [some (.ref 30), some (.ref 0), some (.ref 19), some (.ref 29), some (.int i), none, none, none], [.ref 29, .int (xs (ix (i + (2 : Int32)))), .int (xs (ix (i + (1 : Int32)))), .ref 0], M, 0))) := by rfl
set_option maxRecDepth 100000 in
theorem bl_28_3 : (fun (L : Nat) (xs : Nat → Int32) (i : Int32) (kk : Int32) (M1 : Mem) => run (C_law_28 L xs) 6 (2057, [some (.ref 30), some (.ref 0), some (.ref 19), some (.ref 29), some (.int i), none, none, none], [.int kk], M1, 2)) = (fun (L : Nat) (xs : Nat → Int32) (i : Int32) (kk : Int32) (M1 : Mem) => some (.inl (2065, [some (.ref 30), some (.ref 0), some (.ref 19), some (.ref 29), some (.int i), some (.int kk), none, none], [.int (i + (1 : Int32)), .ref 30, .ref 19], M1, 2))) := by rfl
set_option maxRecDepth 100000 in
theorem bl_28_4 : (fun (L : Nat) (xs : Nat → Int32) (i : Int32) (kk : Int32) (M1 : Mem) => run (C_law_28 L xs) 4 (2066, [some (.ref 30), some (.ref 0), some (.ref 19), some (.ref 29), some (.int i), some (.int kk), none, none], [.int (xs (ix (i + (1 : Int32)))), .ref 19], M1, 2)) = (fun (L : Nat) (xs : Nat → Int32) (i : Int32) (kk : Int32) (M1 : Mem) => some (.inl (2071, [some (.ref 30), some (.ref 0), some (.ref 19), some (.ref 29), some (.int i), some (.int kk), none, none], [.int (i + (2 : Int32)), .ref 30, .int (xs (ix (i + (1 : Int32)))), .ref 19], M1, 2))) := by rfl
set_option maxRecDepth 100000 in
theorem bl_28_5 : (fun (L : Nat) (xs : Nat → Int32) (i : Int32) (kk : Int32) (b : Int32) (M2 : Mem) => run (C_law_28 L xs) 4 (2075, [some (.ref 30), some (.ref 0), some (.ref 19), some (.ref 29), some (.int i), some (.int kk), none, none], [.int b], M2, 2)) = (fun (L : Nat) (xs : Nat → Int32) (i : Int32) (kk : Int32) (b : Int32) (M2 : Mem) => some (.inl (2083, [some (.ref 30), some (.ref 0), some (.ref 19), some (.ref 29), some (.int i), some (.int kk), some (.int b), none], [.int kk, .int (M2.1 19 15)], M2, 2))) := by rfl
set_option maxRecDepth 100000 in
theorem bl_28_6 : (fun (L : Nat) (xs : Nat → Int32) (i : Int32) (kk : Int32) (b : Int32) (M2 : Mem) => run (C_law_28 L xs) 1 (2083, [some (.ref 30), some (.ref 0), some (.ref 19), some (.ref 29), some (.int i), some (.int kk), some (.int b), none], [.int kk, .int (M2.1 19 15)], M2, 2)) = (fun (L : Nat) (xs : Nat → Int32) (i : Int32) (kk : Int32) (b : Int32) (M2 : Mem) => some (.inl ((br (decide ((M2.1 19 15) = kk)) 2083 3 (5)), [some (.ref 30), some (.ref 0), some (.ref 19), some (.ref 29), some (.int i), some (.int kk), some (.int b), none], [], M2, 2))) := by rfl
set_option maxRecDepth 100000 in
theorem bl_28_7 : (fun (L : Nat) (xs : Nat → Int32) (i : Int32) (kk : Int32) (b : Int32) (M2 : Mem) => run (C_law_28 L xs) 1 (2088, [some (.ref 30), some (.ref 0), some (.ref 19), some (.ref 29), some (.int i), some (.int kk), some (.int b), none], [], M2, 2)) = (fun (L : Nat) (xs : Nat → Int32) (i : Int32) (kk : Int32) (b : Int32) (M2 : Mem) => some (.inl (2090, [some (.ref 30), some (.ref 0), some (.ref 19), some (.ref 29), some (.int i), some (.int kk), some (.int b), none], [.int kk], M2, 2))) := by rfl
set_option maxRecDepth 100000 in
theorem bl_28_8 : (fun (L : Nat) (xs : Nat → Int32) (i : Int32) (kk : Int32) (b : Int32) (M2 : Mem) => run (C_law_28 L xs) 1 (2090, [some (.ref 30), some (.ref 0), some (.ref 19), some (.ref 29), some (.int i), some (.int kk), some (.int b), none], [.int kk], M2, 2)) = (fun (L : Nat) (xs : Nat → Int32) (i : Int32) (kk : Int32) (b : Int32) (M2 : Mem) => some (.inl ((br (!decide (kk = 0)) 2090 3 (15)), [some (.ref 30), some (.ref 0), some (.ref 19), some (.ref 29), some (.int i), some (.int kk), some (.int b), none], [], M2, 2))) := by rfl
set_option maxRecDepth 100000 in
theorem bl_28_9 : (fun (L : Nat) (xs : Nat → Int32) (i : Int32) (kk : Int32) (b : Int32) (M2 : Mem) => run (C_law_28 L xs) 2 (2093, [some (.ref 30), some (.ref 0), some (.ref 19), some (.ref 29), some (.int i), some (.int kk), some (.int b), none], [], M2, 2)) = (fun (L : Nat) (xs : Nat → Int32) (i : Int32) (kk : Int32) (b : Int32) (M2 : Mem) => some (.inl (2095, [some (.ref 30), some (.ref 0), some (.ref 19), some (.ref 29), some (.int i), some (.int kk), some (.int b), none], [.int (0 : Int32), .ref 29], M2, 2))) := by rfl
set_option maxRecDepth 100000 in
theorem bl_28_10 : (fun (L : Nat) (xs : Nat → Int32) (i : Int32) (kk : Int32) (b : Int32) (M2 : Mem) => run (C_law_28 L xs) 3 (2096, [some (.ref 30), some (.ref 0), some (.ref 19), some (.ref 29), some (.int i), some (.int kk), some (.int b), none], [.long (M2.2 29 0)], M2, 2)) = (fun (L : Nat) (xs : Nat → Int32) (i : Int32) (kk : Int32) (b : Int32) (M2 : Mem) => some (.inl (2100, [some (.ref 30), some (.ref 0), some (.ref 19), some (.ref 29), some (.int i), some (.int kk), some (.int b), none], [.int (lg_cmp (M2.2 29 0) b.toInt64)], M2, 2))) := by rfl
set_option maxRecDepth 100000 in
theorem bl_28_11 : (fun (L : Nat) (xs : Nat → Int32) (i : Int32) (kk : Int32) (b : Int32) (M2 : Mem) => run (C_law_28 L xs) 1 (2100, [some (.ref 30), some (.ref 0), some (.ref 19), some (.ref 29), some (.int i), some (.int kk), some (.int b), none], [.int (lg_cmp (M2.2 29 0) b.toInt64)], M2, 2)) = (fun (L : Nat) (xs : Nat → Int32) (i : Int32) (kk : Int32) (b : Int32) (M2 : Mem) => some (.inl ((br (decide ((lg_cmp (M2.2 29 0) b.toInt64) = 0)) 2100 3 (5)), [some (.ref 30), some (.ref 0), some (.ref 19), some (.ref 29), some (.int i), some (.int kk), some (.int b), none], [], M2, 2))) := by rfl
set_option maxRecDepth 100000 in
theorem bl_28_12 : (fun (L : Nat) (xs : Nat → Int32) (i : Int32) (kk : Int32) (b : Int32) (M2 : Mem) => run (C_law_28 L xs) 1 (2105, [some (.ref 30), some (.ref 0), some (.ref 19), some (.ref 29), some (.int i), some (.int kk), some (.int b), none], [], M2, 2)) = (fun (L : Nat) (xs : Nat → Int32) (i : Int32) (kk : Int32) (b : Int32) (M2 : Mem) => some (.inl (2244, [some (.ref 30), some (.ref 0), some (.ref 19), some (.ref 29), some (.int i), some (.int kk), some (.int b), none], [], M2, 2))) := by rfl
set_option maxRecDepth 100000 in
theorem bl_28_13 : (fun (L : Nat) (xs : Nat → Int32) (i : Int32) (kk : Int32) (b : Int32) (M2 : Mem) => run (C_law_28 L xs) 2 (2244, [some (.ref 30), some (.ref 0), some (.ref 19), some (.ref 29), some (.int i), some (.int kk), some (.int b), none], [], M2, 2)) = (fun (L : Nat) (xs : Nat → Int32) (i : Int32) (kk : Int32) (b : Int32) (M2 : Mem) => some (.inl (23, [some (.ref 30), some (.ref 0), some (.ref 19), some (.ref 29), some (.int (i + (5 : Int32))), some (.int kk), some (.int b), none], [], M2, 2))) := by rfl
set_option maxRecDepth 100000 in
theorem bl_28_14 : (fun (L : Nat) (xs : Nat → Int32) (i : Int32) (kk : Int32) (b : Int32) (M2 : Mem) => run (C_law_28 L xs) 1 (2105, [some (.ref 30), some (.ref 0), some (.ref 19), some (.ref 29), some (.int i), some (.int kk), some (.int b), none], [], M2, 2)) = (fun (L : Nat) (xs : Nat → Int32) (i : Int32) (kk : Int32) (b : Int32) (M2 : Mem) => some (.inl (2244, [some (.ref 30), some (.ref 0), some (.ref 19), some (.ref 29), some (.int i), some (.int kk), some (.int b), none], [], M2, 2))) := by rfl
set_option maxRecDepth 100000 in
theorem bl_28_15 : (fun (L : Nat) (xs : Nat → Int32) (i : Int32) (kk : Int32) (b : Int32) (M2 : Mem) => run (C_law_28 L xs) 2 (2244, [some (.ref 30), some (.ref 0), some (.ref 19), some (.ref 29), some (.int i), some (.int kk), some (.int b), none], [], M2, 2)) = (fun (L : Nat) (xs : Nat → Int32) (i : Int32) (kk : Int32) (b : Int32) (M2 : Mem) => some (.inl (23, [some (.ref 30), some (.ref 0), some (.ref 19), some (.ref 29), some (.int (i + (5 : Int32))), some (.int kk), some (.int b), none], [], M2, 2))) := by rfl
theorem cz_28 {L : Nat} {xs : Nat → Int32} {i : Int32} {M : Mem} (h : Inv M) (i1 : inb (i + (1 : Int32)) L = true) (i2 : inb (i + (2 : Int32)) L = true) : ∃ (M' : Mem) (k : Nat), k ≤ 8 ∧ Inv M' ∧ Rto (C_law_28 L xs) (2040, loL i, [], M, 0) (23, loL (i + (5 : Int32)), [], M', k) := by
  obtain ⟨kk, b, M1, M2, hF, hG, ht, ho, hI⟩ := cs_transform h (xs (ix (i + (1 : Int32)))) (xs (ix (i + (2 : Int32))))
  refine ⟨M2, 2, by decide, hI, ?_⟩
  refine Rto.trans (Rto.run 5 (congrFun (congrFun (congrFun (congrFun bl_28_0 L) xs) i) M)) ?_
  refine Rto.trans (Rto.run 1 (run_ld rfl rfl rfl i1)) ?_
  show Rto (C_law_28 L xs) (2047, [some (.ref 30), some (.ref 0), some (.ref 19), some (.ref 29), some (.int i), none, none, none], [.int (xs (ix (i + (1 : Int32)))), .ref 0], M, 0) _
  refine Rto.trans (Rto.run 4 (congrFun (congrFun (congrFun (congrFun bl_28_1 L) xs) i) M)) ?_
  refine Rto.trans (Rto.run 1 (run_ld rfl rfl rfl i2)) ?_
  show Rto (C_law_28 L xs) (2053, [some (.ref 30), some (.ref 0), some (.ref 19), some (.ref 29), some (.int i), none, none, none], [.int (xs (ix (i + (2 : Int32)))), .int (xs (ix (i + (1 : Int32)))), .ref 0], M, 0) _
  refine Rto.trans (Rto.run 1 (congrFun (congrFun (congrFun (congrFun bl_28_2 L) xs) i) M)) ?_
  refine Rto.trans (Rto.run 1 (run_callS (v := some (.int kk)) rfl rfl rfl rfl hF)) ?_
  show Rto (C_law_28 L xs) (2057, [some (.ref 30), some (.ref 0), some (.ref 19), some (.ref 29), some (.int i), none, none, none], [.int kk], M1, 2) _
  refine Rto.trans (Rto.run 6 (congrFun (congrFun (congrFun (congrFun (congrFun bl_28_3 L) xs) i) kk) M1)) ?_
  refine Rto.trans (Rto.run 1 (run_ld rfl rfl rfl i1)) ?_
  show Rto (C_law_28 L xs) (2066, [some (.ref 30), some (.ref 0), some (.ref 19), some (.ref 29), some (.int i), some (.int kk), none, none], [.int (xs (ix (i + (1 : Int32)))), .ref 19], M1, 2) _
  refine Rto.trans (Rto.run 4 (congrFun (congrFun (congrFun (congrFun (congrFun bl_28_4 L) xs) i) kk) M1)) ?_
  refine Rto.trans (Rto.run 1 (run_ld rfl rfl rfl i2)) ?_
  show Rto (C_law_28 L xs) (2072, [some (.ref 30), some (.ref 0), some (.ref 19), some (.ref 29), some (.int i), some (.int kk), none, none], [.int (xs (ix (i + (2 : Int32)))), .int (xs (ix (i + (1 : Int32)))), .ref 19], M1, 2) _
  refine Rto.trans (Rto.run 1 (run_callV (v := some (.int b)) rfl rfl rfl rfl rfl hG)) ?_
  show Rto (C_law_28 L xs) (2075, [some (.ref 30), some (.ref 0), some (.ref 19), some (.ref 29), some (.int i), some (.int kk), none, none], [.int b], M2, 2) _
  refine Rto.trans (Rto.run 4 (congrFun (congrFun (congrFun (congrFun (congrFun (congrFun bl_28_5 L) xs) i) kk) b) M2)) ?_
  refine Rto.trans (Rto.run 1 (congrFun (congrFun (congrFun (congrFun (congrFun (congrFun bl_28_6 L) xs) i) kk) b) M2)) ?_
  refine Rto.trans (Rto.brT (q := 2088) ht rfl) ?_
  refine Rto.trans (Rto.run 1 (congrFun (congrFun (congrFun (congrFun (congrFun (congrFun bl_28_7 L) xs) i) kk) b) M2)) ?_
  refine Rto.trans (Rto.run 1 (congrFun (congrFun (congrFun (congrFun (congrFun (congrFun bl_28_8 L) xs) i) kk) b) M2)) ?_
  by_cases hk : kk = 0
  · refine Rto.trans (Rto.brNF (q := 2093) hk rfl) ?_
    refine Rto.trans (Rto.run 2 (congrFun (congrFun (congrFun (congrFun (congrFun (congrFun bl_28_9 L) xs) i) kk) b) M2)) ?_
    refine Rto.trans (Rto.run 1 (run_out rfl rfl rfl)) ?_
    show Rto (C_law_28 L xs) (2096, [some (.ref 30), some (.ref 0), some (.ref 19), some (.ref 29), some (.int i), some (.int kk), some (.int b), none], [.long (M2.2 29 0)], M2, 2) _
    refine Rto.trans (Rto.run 3 (congrFun (congrFun (congrFun (congrFun (congrFun (congrFun bl_28_10 L) xs) i) kk) b) M2)) ?_
    refine Rto.trans (Rto.run 1 (congrFun (congrFun (congrFun (congrFun (congrFun (congrFun bl_28_11 L) xs) i) kk) b) M2)) ?_
    refine Rto.trans (Rto.brT (q := 2105) (lg_cmp_eq _ _ |>.mpr (ho hk)) rfl) ?_
    refine Rto.trans (Rto.run 1 (congrFun (congrFun (congrFun (congrFun (congrFun (congrFun bl_28_12 L) xs) i) kk) b) M2)) ?_
    refine Rto.trans (Rto.run 2 (congrFun (congrFun (congrFun (congrFun (congrFun (congrFun bl_28_13 L) xs) i) kk) b) M2)) ?_
    exact Rto.fgt [5, 6, 7] rfl
  · refine Rto.trans (Rto.brNT (q := 2105) hk rfl) ?_
    refine Rto.trans (Rto.run 1 (congrFun (congrFun (congrFun (congrFun (congrFun (congrFun bl_28_14 L) xs) i) kk) b) M2)) ?_
    refine Rto.trans (Rto.run 2 (congrFun (congrFun (congrFun (congrFun (congrFun (congrFun bl_28_15 L) xs) i) kk) b) M2)) ?_
    exact Rto.fgt [5, 6, 7] rfl
def t_law_29 : List (Nat × Instr × Nat) := [(2108, .aload_n 1, 1), (2109, .aload_n 0, 1), (2110, .iload 4, 2), (2112, .iconst 1, 1), (2113, .iadd, 1), (2114, .iaload, 1), (2115, .aload_n 0, 1), (2116, .iload 4, 2), (2118, .iconst 2, 1), (2119, .iadd, 1), (2120, .iaload, 1), (2121, .aload_n 0, 1), (2122, .iload 4, 2), (2124, .iconst 3, 1), (2125, .iadd, 1), (2126, .iaload, 1), (2127, .aload_n 3, 1), (2128, .invokestatic 224, 3), (2131, .istore 5, 2), (2133, .aload_n 2, 1), (2134, .aload_n 0, 1), (2135, .iload 4, 2), (2137, .iconst 1, 1), (2138, .iadd, 1), (2139, .iaload, 1), (2140, .aload_n 0, 1), (2141, .iload 4, 2), (2143, .iconst 2, 1), (2144, .iadd, 1), (2145, .iaload, 1), (2146, .aload_n 0, 1), (2147, .iload 4, 2), (2149, .iconst 3, 1), (2150, .iadd, 1), (2151, .iaload, 1), (2152, .invokevirtual 226, 3), (2155, .istore 6, 2), (2157, .aload_n 2, 1), (2158, .invokevirtual 125, 3), (2161, .iload 5, 2), (2163, .if_icmp .eq 5, 3), (2166, .iconst 0, 1), (2167, .ireturn, 1), (2168, .iload 5, 2), (2170, .ifCond .ne 15, 3), (2173, .aload_n 3, 1), (2174, .iconst 0, 1), (2175, .laload, 1), (2176, .iload 6, 2), (2178, .i2l, 1), (2179, .lcmp, 1), (2180, .ifCond .eq 5, 3), (2183, .iconst 0, 1), (2184, .ireturn, 1), (2185, .goto 59, 3), (2244, .iinc 4 5, 3), (2247, .goto (-2224), 3)]
theorem tk_law_29 : ∀ x ∈ t_law_29, decode code x.1 = .ok x.2 := by decide +kernel
def C_law_29 (L : Nat) (xs : Nat → Int32) : Cfg := (t_law_29, csF, fl_L, [(125, 2, 6, 1, 0, fn_X8_thrown), (224, 0, 0, 5, 4, fn_L_waysAnew), (226, 2, 6, 4, 0, fn_X8_waysAnew)], in_L, lg_L, [], [], some (L, xs), some .boolean, 8)
theorem lok_29 (L : Nat) (xs : Nat → Int32) : LawC L xs (C_law_29 L xs) := ⟨⟨tk_law_29, csF_nd, flk_L, (List.forall_mem_cons.mpr ⟨cl_125, List.forall_mem_cons.mpr ⟨cl_224, List.forall_mem_cons.mpr ⟨cl_226, fun _ h => absurd h List.not_mem_nil⟩⟩⟩), ink_L, lgk_L, fun e h => absurd h List.not_mem_nil, fun h hh => absurd hh List.not_mem_nil⟩, rfl, rfl, rfl, rfl, rfl⟩
set_option maxRecDepth 100000 in
theorem bl_29_0 : (fun (L : Nat) (xs : Nat → Int32) (i : Int32) (M : Mem) => run (C_law_29 L xs) 5 (2108, [some (.ref 30), some (.ref 0), some (.ref 19), some (.ref 29), some (.int i), none, none, none], [], M, 0)) = (fun (L : Nat) (xs : Nat → Int32) (i : Int32) (M : Mem) => some (.inl (2114, [some (.ref 30), some (.ref 0), some (.ref 19), some (.ref 29), some (.int i), none, none, none], [.int (i + (1 : Int32)), .ref 30, .ref 0], M, 0))) := by rfl
set_option maxRecDepth 100000 in
theorem bl_29_1 : (fun (L : Nat) (xs : Nat → Int32) (i : Int32) (M : Mem) => run (C_law_29 L xs) 4 (2115, [some (.ref 30), some (.ref 0), some (.ref 19), some (.ref 29), some (.int i), none, none, none], [.int (xs (ix (i + (1 : Int32)))), .ref 0], M, 0)) = (fun (L : Nat) (xs : Nat → Int32) (i : Int32) (M : Mem) => some (.inl (2120, [some (.ref 30), some (.ref 0), some (.ref 19), some (.ref 29), some (.int i), none, none, none], [.int (i + (2 : Int32)), .ref 30, .int (xs (ix (i + (1 : Int32)))), .ref 0], M, 0))) := by rfl
set_option maxRecDepth 100000 in
theorem bl_29_2 : (fun (L : Nat) (xs : Nat → Int32) (i : Int32) (M : Mem) => run (C_law_29 L xs) 4 (2121, [some (.ref 30), some (.ref 0), some (.ref 19), some (.ref 29), some (.int i), none, none, none], [.int (xs (ix (i + (2 : Int32)))), .int (xs (ix (i + (1 : Int32)))), .ref 0], M, 0)) = (fun (L : Nat) (xs : Nat → Int32) (i : Int32) (M : Mem) => some (.inl (2126, [some (.ref 30), some (.ref 0), some (.ref 19), some (.ref 29), some (.int i), none, none, none], [.int (i + (3 : Int32)), .ref 30, .int (xs (ix (i + (2 : Int32)))), .int (xs (ix (i + (1 : Int32)))), .ref 0], M, 0))) := by rfl
set_option maxRecDepth 100000 in
theorem bl_29_3 : (fun (L : Nat) (xs : Nat → Int32) (i : Int32) (M : Mem) => run (C_law_29 L xs) 1 (2127, [some (.ref 30), some (.ref 0), some (.ref 19), some (.ref 29), some (.int i), none, none, none], [.int (xs (ix (i + (3 : Int32)))), .int (xs (ix (i + (2 : Int32)))), .int (xs (ix (i + (1 : Int32)))), .ref 0], M, 0)) = (fun (L : Nat) (xs : Nat → Int32) (i : Int32) (M : Mem) => some (.inl (2128, [some (.ref 30), some (.ref 0), some (.ref 19), some (.ref 29), some (.int i), none, none, none], [.ref 29, .int (xs (ix (i + (3 : Int32)))), .int (xs (ix (i + (2 : Int32)))), .int (xs (ix (i + (1 : Int32)))), .ref 0], M, 0))) := by rfl
set_option maxRecDepth 100000 in
theorem bl_29_4 : (fun (L : Nat) (xs : Nat → Int32) (i : Int32) (kk : Int32) (M1 : Mem) => run (C_law_29 L xs) 6 (2131, [some (.ref 30), some (.ref 0), some (.ref 19), some (.ref 29), some (.int i), none, none, none], [.int kk], M1, 4)) = (fun (L : Nat) (xs : Nat → Int32) (i : Int32) (kk : Int32) (M1 : Mem) => some (.inl (2139, [some (.ref 30), some (.ref 0), some (.ref 19), some (.ref 29), some (.int i), some (.int kk), none, none], [.int (i + (1 : Int32)), .ref 30, .ref 19], M1, 4))) := by rfl
set_option maxRecDepth 100000 in
theorem bl_29_5 : (fun (L : Nat) (xs : Nat → Int32) (i : Int32) (kk : Int32) (M1 : Mem) => run (C_law_29 L xs) 4 (2140, [some (.ref 30), some (.ref 0), some (.ref 19), some (.ref 29), some (.int i), some (.int kk), none, none], [.int (xs (ix (i + (1 : Int32)))), .ref 19], M1, 4)) = (fun (L : Nat) (xs : Nat → Int32) (i : Int32) (kk : Int32) (M1 : Mem) => some (.inl (2145, [some (.ref 30), some (.ref 0), some (.ref 19), some (.ref 29), some (.int i), some (.int kk), none, none], [.int (i + (2 : Int32)), .ref 30, .int (xs (ix (i + (1 : Int32)))), .ref 19], M1, 4))) := by rfl
set_option maxRecDepth 100000 in
theorem bl_29_6 : (fun (L : Nat) (xs : Nat → Int32) (i : Int32) (kk : Int32) (M1 : Mem) => run (C_law_29 L xs) 4 (2146, [some (.ref 30), some (.ref 0), some (.ref 19), some (.ref 29), some (.int i), some (.int kk), none, none], [.int (xs (ix (i + (2 : Int32)))), .int (xs (ix (i + (1 : Int32)))), .ref 19], M1, 4)) = (fun (L : Nat) (xs : Nat → Int32) (i : Int32) (kk : Int32) (M1 : Mem) => some (.inl (2151, [some (.ref 30), some (.ref 0), some (.ref 19), some (.ref 29), some (.int i), some (.int kk), none, none], [.int (i + (3 : Int32)), .ref 30, .int (xs (ix (i + (2 : Int32)))), .int (xs (ix (i + (1 : Int32)))), .ref 19], M1, 4))) := by rfl
set_option maxRecDepth 100000 in
theorem bl_29_7 : (fun (L : Nat) (xs : Nat → Int32) (i : Int32) (kk : Int32) (b : Int32) (M2 : Mem) => run (C_law_29 L xs) 4 (2155, [some (.ref 30), some (.ref 0), some (.ref 19), some (.ref 29), some (.int i), some (.int kk), none, none], [.int b], M2, 4)) = (fun (L : Nat) (xs : Nat → Int32) (i : Int32) (kk : Int32) (b : Int32) (M2 : Mem) => some (.inl (2163, [some (.ref 30), some (.ref 0), some (.ref 19), some (.ref 29), some (.int i), some (.int kk), some (.int b), none], [.int kk, .int (M2.1 19 15)], M2, 4))) := by rfl
set_option maxRecDepth 100000 in
theorem bl_29_8 : (fun (L : Nat) (xs : Nat → Int32) (i : Int32) (kk : Int32) (b : Int32) (M2 : Mem) => run (C_law_29 L xs) 1 (2163, [some (.ref 30), some (.ref 0), some (.ref 19), some (.ref 29), some (.int i), some (.int kk), some (.int b), none], [.int kk, .int (M2.1 19 15)], M2, 4)) = (fun (L : Nat) (xs : Nat → Int32) (i : Int32) (kk : Int32) (b : Int32) (M2 : Mem) => some (.inl ((br (decide ((M2.1 19 15) = kk)) 2163 3 (5)), [some (.ref 30), some (.ref 0), some (.ref 19), some (.ref 29), some (.int i), some (.int kk), some (.int b), none], [], M2, 4))) := by rfl
set_option maxRecDepth 100000 in
theorem bl_29_9 : (fun (L : Nat) (xs : Nat → Int32) (i : Int32) (kk : Int32) (b : Int32) (M2 : Mem) => run (C_law_29 L xs) 1 (2168, [some (.ref 30), some (.ref 0), some (.ref 19), some (.ref 29), some (.int i), some (.int kk), some (.int b), none], [], M2, 4)) = (fun (L : Nat) (xs : Nat → Int32) (i : Int32) (kk : Int32) (b : Int32) (M2 : Mem) => some (.inl (2170, [some (.ref 30), some (.ref 0), some (.ref 19), some (.ref 29), some (.int i), some (.int kk), some (.int b), none], [.int kk], M2, 4))) := by rfl
set_option maxRecDepth 100000 in
theorem bl_29_10 : (fun (L : Nat) (xs : Nat → Int32) (i : Int32) (kk : Int32) (b : Int32) (M2 : Mem) => run (C_law_29 L xs) 1 (2170, [some (.ref 30), some (.ref 0), some (.ref 19), some (.ref 29), some (.int i), some (.int kk), some (.int b), none], [.int kk], M2, 4)) = (fun (L : Nat) (xs : Nat → Int32) (i : Int32) (kk : Int32) (b : Int32) (M2 : Mem) => some (.inl ((br (!decide (kk = 0)) 2170 3 (15)), [some (.ref 30), some (.ref 0), some (.ref 19), some (.ref 29), some (.int i), some (.int kk), some (.int b), none], [], M2, 4))) := by rfl
set_option maxRecDepth 100000 in
theorem bl_29_11 : (fun (L : Nat) (xs : Nat → Int32) (i : Int32) (kk : Int32) (b : Int32) (M2 : Mem) => run (C_law_29 L xs) 2 (2173, [some (.ref 30), some (.ref 0), some (.ref 19), some (.ref 29), some (.int i), some (.int kk), some (.int b), none], [], M2, 4)) = (fun (L : Nat) (xs : Nat → Int32) (i : Int32) (kk : Int32) (b : Int32) (M2 : Mem) => some (.inl (2175, [some (.ref 30), some (.ref 0), some (.ref 19), some (.ref 29), some (.int i), some (.int kk), some (.int b), none], [.int (0 : Int32), .ref 29], M2, 4))) := by rfl
set_option maxRecDepth 100000 in
theorem bl_29_12 : (fun (L : Nat) (xs : Nat → Int32) (i : Int32) (kk : Int32) (b : Int32) (M2 : Mem) => run (C_law_29 L xs) 3 (2176, [some (.ref 30), some (.ref 0), some (.ref 19), some (.ref 29), some (.int i), some (.int kk), some (.int b), none], [.long (M2.2 29 0)], M2, 4)) = (fun (L : Nat) (xs : Nat → Int32) (i : Int32) (kk : Int32) (b : Int32) (M2 : Mem) => some (.inl (2180, [some (.ref 30), some (.ref 0), some (.ref 19), some (.ref 29), some (.int i), some (.int kk), some (.int b), none], [.int (lg_cmp (M2.2 29 0) b.toInt64)], M2, 4))) := by rfl
set_option maxRecDepth 100000 in
theorem bl_29_13 : (fun (L : Nat) (xs : Nat → Int32) (i : Int32) (kk : Int32) (b : Int32) (M2 : Mem) => run (C_law_29 L xs) 1 (2180, [some (.ref 30), some (.ref 0), some (.ref 19), some (.ref 29), some (.int i), some (.int kk), some (.int b), none], [.int (lg_cmp (M2.2 29 0) b.toInt64)], M2, 4)) = (fun (L : Nat) (xs : Nat → Int32) (i : Int32) (kk : Int32) (b : Int32) (M2 : Mem) => some (.inl ((br (decide ((lg_cmp (M2.2 29 0) b.toInt64) = 0)) 2180 3 (5)), [some (.ref 30), some (.ref 0), some (.ref 19), some (.ref 29), some (.int i), some (.int kk), some (.int b), none], [], M2, 4))) := by rfl
set_option maxRecDepth 100000 in
theorem bl_29_14 : (fun (L : Nat) (xs : Nat → Int32) (i : Int32) (kk : Int32) (b : Int32) (M2 : Mem) => run (C_law_29 L xs) 1 (2185, [some (.ref 30), some (.ref 0), some (.ref 19), some (.ref 29), some (.int i), some (.int kk), some (.int b), none], [], M2, 4)) = (fun (L : Nat) (xs : Nat → Int32) (i : Int32) (kk : Int32) (b : Int32) (M2 : Mem) => some (.inl (2244, [some (.ref 30), some (.ref 0), some (.ref 19), some (.ref 29), some (.int i), some (.int kk), some (.int b), none], [], M2, 4))) := by rfl
set_option maxRecDepth 100000 in
theorem bl_29_15 : (fun (L : Nat) (xs : Nat → Int32) (i : Int32) (kk : Int32) (b : Int32) (M2 : Mem) => run (C_law_29 L xs) 2 (2244, [some (.ref 30), some (.ref 0), some (.ref 19), some (.ref 29), some (.int i), some (.int kk), some (.int b), none], [], M2, 4)) = (fun (L : Nat) (xs : Nat → Int32) (i : Int32) (kk : Int32) (b : Int32) (M2 : Mem) => some (.inl (23, [some (.ref 30), some (.ref 0), some (.ref 19), some (.ref 29), some (.int (i + (5 : Int32))), some (.int kk), some (.int b), none], [], M2, 4))) := by rfl
set_option maxRecDepth 100000 in
theorem bl_29_16 : (fun (L : Nat) (xs : Nat → Int32) (i : Int32) (kk : Int32) (b : Int32) (M2 : Mem) => run (C_law_29 L xs) 1 (2185, [some (.ref 30), some (.ref 0), some (.ref 19), some (.ref 29), some (.int i), some (.int kk), some (.int b), none], [], M2, 4)) = (fun (L : Nat) (xs : Nat → Int32) (i : Int32) (kk : Int32) (b : Int32) (M2 : Mem) => some (.inl (2244, [some (.ref 30), some (.ref 0), some (.ref 19), some (.ref 29), some (.int i), some (.int kk), some (.int b), none], [], M2, 4))) := by rfl
set_option maxRecDepth 100000 in
theorem bl_29_17 : (fun (L : Nat) (xs : Nat → Int32) (i : Int32) (kk : Int32) (b : Int32) (M2 : Mem) => run (C_law_29 L xs) 2 (2244, [some (.ref 30), some (.ref 0), some (.ref 19), some (.ref 29), some (.int i), some (.int kk), some (.int b), none], [], M2, 4)) = (fun (L : Nat) (xs : Nat → Int32) (i : Int32) (kk : Int32) (b : Int32) (M2 : Mem) => some (.inl (23, [some (.ref 30), some (.ref 0), some (.ref 19), some (.ref 29), some (.int (i + (5 : Int32))), some (.int kk), some (.int b), none], [], M2, 4))) := by rfl
theorem cz_29 {L : Nat} {xs : Nat → Int32} {i : Int32} {M : Mem} (h : Inv M) (i1 : inb (i + (1 : Int32)) L = true) (i2 : inb (i + (2 : Int32)) L = true) (i3 : inb (i + (3 : Int32)) L = true) : ∃ (M' : Mem) (k : Nat), k ≤ 8 ∧ Inv M' ∧ Rto (C_law_29 L xs) (2108, loL i, [], M, 0) (23, loL (i + (5 : Int32)), [], M', k) := by
  obtain ⟨kk, b, M1, M2, hF, hG, ht, ho, hI⟩ := cs_waysAnew h (xs (ix (i + (1 : Int32)))) (xs (ix (i + (2 : Int32)))) (xs (ix (i + (3 : Int32))))
  refine ⟨M2, 4, by decide, hI, ?_⟩
  refine Rto.trans (Rto.run 5 (congrFun (congrFun (congrFun (congrFun bl_29_0 L) xs) i) M)) ?_
  refine Rto.trans (Rto.run 1 (run_ld rfl rfl rfl i1)) ?_
  show Rto (C_law_29 L xs) (2115, [some (.ref 30), some (.ref 0), some (.ref 19), some (.ref 29), some (.int i), none, none, none], [.int (xs (ix (i + (1 : Int32)))), .ref 0], M, 0) _
  refine Rto.trans (Rto.run 4 (congrFun (congrFun (congrFun (congrFun bl_29_1 L) xs) i) M)) ?_
  refine Rto.trans (Rto.run 1 (run_ld rfl rfl rfl i2)) ?_
  show Rto (C_law_29 L xs) (2121, [some (.ref 30), some (.ref 0), some (.ref 19), some (.ref 29), some (.int i), none, none, none], [.int (xs (ix (i + (2 : Int32)))), .int (xs (ix (i + (1 : Int32)))), .ref 0], M, 0) _
  refine Rto.trans (Rto.run 4 (congrFun (congrFun (congrFun (congrFun bl_29_2 L) xs) i) M)) ?_
  refine Rto.trans (Rto.run 1 (run_ld rfl rfl rfl i3)) ?_
  show Rto (C_law_29 L xs) (2127, [some (.ref 30), some (.ref 0), some (.ref 19), some (.ref 29), some (.int i), none, none, none], [.int (xs (ix (i + (3 : Int32)))), .int (xs (ix (i + (2 : Int32)))), .int (xs (ix (i + (1 : Int32)))), .ref 0], M, 0) _
  refine Rto.trans (Rto.run 1 (congrFun (congrFun (congrFun (congrFun bl_29_3 L) xs) i) M)) ?_
  refine Rto.trans (Rto.run 1 (run_callS (v := some (.int kk)) rfl rfl rfl rfl hF)) ?_
  show Rto (C_law_29 L xs) (2131, [some (.ref 30), some (.ref 0), some (.ref 19), some (.ref 29), some (.int i), none, none, none], [.int kk], M1, 4) _
  refine Rto.trans (Rto.run 6 (congrFun (congrFun (congrFun (congrFun (congrFun bl_29_4 L) xs) i) kk) M1)) ?_
  refine Rto.trans (Rto.run 1 (run_ld rfl rfl rfl i1)) ?_
  show Rto (C_law_29 L xs) (2140, [some (.ref 30), some (.ref 0), some (.ref 19), some (.ref 29), some (.int i), some (.int kk), none, none], [.int (xs (ix (i + (1 : Int32)))), .ref 19], M1, 4) _
  refine Rto.trans (Rto.run 4 (congrFun (congrFun (congrFun (congrFun (congrFun bl_29_5 L) xs) i) kk) M1)) ?_
  refine Rto.trans (Rto.run 1 (run_ld rfl rfl rfl i2)) ?_
  show Rto (C_law_29 L xs) (2146, [some (.ref 30), some (.ref 0), some (.ref 19), some (.ref 29), some (.int i), some (.int kk), none, none], [.int (xs (ix (i + (2 : Int32)))), .int (xs (ix (i + (1 : Int32)))), .ref 19], M1, 4) _
  refine Rto.trans (Rto.run 4 (congrFun (congrFun (congrFun (congrFun (congrFun bl_29_6 L) xs) i) kk) M1)) ?_
  refine Rto.trans (Rto.run 1 (run_ld rfl rfl rfl i3)) ?_
  show Rto (C_law_29 L xs) (2152, [some (.ref 30), some (.ref 0), some (.ref 19), some (.ref 29), some (.int i), some (.int kk), none, none], [.int (xs (ix (i + (3 : Int32)))), .int (xs (ix (i + (2 : Int32)))), .int (xs (ix (i + (1 : Int32)))), .ref 19], M1, 4) _
  refine Rto.trans (Rto.run 1 (run_callV (v := some (.int b)) rfl rfl rfl rfl rfl hG)) ?_
  show Rto (C_law_29 L xs) (2155, [some (.ref 30), some (.ref 0), some (.ref 19), some (.ref 29), some (.int i), some (.int kk), none, none], [.int b], M2, 4) _
  refine Rto.trans (Rto.run 4 (congrFun (congrFun (congrFun (congrFun (congrFun (congrFun bl_29_7 L) xs) i) kk) b) M2)) ?_
  refine Rto.trans (Rto.run 1 (congrFun (congrFun (congrFun (congrFun (congrFun (congrFun bl_29_8 L) xs) i) kk) b) M2)) ?_
  refine Rto.trans (Rto.brT (q := 2168) ht rfl) ?_
  refine Rto.trans (Rto.run 1 (congrFun (congrFun (congrFun (congrFun (congrFun (congrFun bl_29_9 L) xs) i) kk) b) M2)) ?_
  refine Rto.trans (Rto.run 1 (congrFun (congrFun (congrFun (congrFun (congrFun (congrFun bl_29_10 L) xs) i) kk) b) M2)) ?_
  by_cases hk : kk = 0
  · refine Rto.trans (Rto.brNF (q := 2173) hk rfl) ?_
    refine Rto.trans (Rto.run 2 (congrFun (congrFun (congrFun (congrFun (congrFun (congrFun bl_29_11 L) xs) i) kk) b) M2)) ?_
    refine Rto.trans (Rto.run 1 (run_out rfl rfl rfl)) ?_
    show Rto (C_law_29 L xs) (2176, [some (.ref 30), some (.ref 0), some (.ref 19), some (.ref 29), some (.int i), some (.int kk), some (.int b), none], [.long (M2.2 29 0)], M2, 4) _
    refine Rto.trans (Rto.run 3 (congrFun (congrFun (congrFun (congrFun (congrFun (congrFun bl_29_12 L) xs) i) kk) b) M2)) ?_
    refine Rto.trans (Rto.run 1 (congrFun (congrFun (congrFun (congrFun (congrFun (congrFun bl_29_13 L) xs) i) kk) b) M2)) ?_
    refine Rto.trans (Rto.brT (q := 2185) (lg_cmp_eq _ _ |>.mpr (ho hk)) rfl) ?_
    refine Rto.trans (Rto.run 1 (congrFun (congrFun (congrFun (congrFun (congrFun (congrFun bl_29_14 L) xs) i) kk) b) M2)) ?_
    refine Rto.trans (Rto.run 2 (congrFun (congrFun (congrFun (congrFun (congrFun (congrFun bl_29_15 L) xs) i) kk) b) M2)) ?_
    exact Rto.fgt [5, 6, 7] rfl
  · refine Rto.trans (Rto.brNT (q := 2185) hk rfl) ?_
    refine Rto.trans (Rto.run 1 (congrFun (congrFun (congrFun (congrFun (congrFun (congrFun bl_29_16 L) xs) i) kk) b) M2)) ?_
    refine Rto.trans (Rto.run 2 (congrFun (congrFun (congrFun (congrFun (congrFun (congrFun bl_29_17 L) xs) i) kk) b) M2)) ?_
    exact Rto.fgt [5, 6, 7] rfl
def t_law_30 : List (Nat × Instr × Nat) := [(2188, .aload_n 1, 1), (2189, .aload_n 0, 1), (2190, .iload 4, 2), (2192, .iconst 1, 1), (2193, .iadd, 1), (2194, .iaload, 1), (2195, .aload_n 3, 1), (2196, .invokestatic 227, 3), (2199, .istore 5, 2), (2201, .aload_n 2, 1), (2202, .aload_n 0, 1), (2203, .iload 4, 2), (2205, .iconst 1, 1), (2206, .iadd, 1), (2207, .iaload, 1), (2208, .invokevirtual 229, 3), (2211, .istore 6, 2), (2213, .aload_n 2, 1), (2214, .invokevirtual 125, 3), (2217, .iload 5, 2), (2219, .if_icmp .eq 5, 3), (2222, .iconst 0, 1), (2223, .ireturn, 1), (2224, .iload 5, 2), (2226, .ifCond .ne 15, 3), (2229, .aload_n 3, 1), (2230, .iconst 0, 1), (2231, .laload, 1), (2232, .iload 6, 2), (2234, .i2l, 1), (2235, .lcmp, 1), (2236, .ifCond .eq 5, 3), (2239, .iconst 0, 1), (2240, .ireturn, 1), (2241, .goto 3, 3), (2244, .iinc 4 5, 3), (2247, .goto (-2224), 3)]
theorem tk_law_30 : ∀ x ∈ t_law_30, decode code x.1 = .ok x.2 := by decide +kernel
def C_law_30 (L : Nat) (xs : Nat → Int32) : Cfg := (t_law_30, csF, fl_L, [(125, 2, 6, 1, 0, fn_X8_thrown), (227, 0, 0, 3, 1, fn_L_of), (229, 2, 6, 2, 0, fn_X8_of)], in_L, lg_L, [], [], some (L, xs), some .boolean, 8)
theorem lok_30 (L : Nat) (xs : Nat → Int32) : LawC L xs (C_law_30 L xs) := ⟨⟨tk_law_30, csF_nd, flk_L, (List.forall_mem_cons.mpr ⟨cl_125, List.forall_mem_cons.mpr ⟨cl_227, List.forall_mem_cons.mpr ⟨cl_229, fun _ h => absurd h List.not_mem_nil⟩⟩⟩), ink_L, lgk_L, fun e h => absurd h List.not_mem_nil, fun h hh => absurd hh List.not_mem_nil⟩, rfl, rfl, rfl, rfl, rfl⟩
set_option maxRecDepth 100000 in
theorem bl_30_0 : (fun (L : Nat) (xs : Nat → Int32) (i : Int32) (M : Mem) => run (C_law_30 L xs) 5 (2188, [some (.ref 30), some (.ref 0), some (.ref 19), some (.ref 29), some (.int i), none, none, none], [], M, 0)) = (fun (L : Nat) (xs : Nat → Int32) (i : Int32) (M : Mem) => some (.inl (2194, [some (.ref 30), some (.ref 0), some (.ref 19), some (.ref 29), some (.int i), none, none, none], [.int (i + (1 : Int32)), .ref 30, .ref 0], M, 0))) := by rfl
set_option maxRecDepth 100000 in
theorem bl_30_1 : (fun (L : Nat) (xs : Nat → Int32) (i : Int32) (M : Mem) => run (C_law_30 L xs) 1 (2195, [some (.ref 30), some (.ref 0), some (.ref 19), some (.ref 29), some (.int i), none, none, none], [.int (xs (ix (i + (1 : Int32)))), .ref 0], M, 0)) = (fun (L : Nat) (xs : Nat → Int32) (i : Int32) (M : Mem) => some (.inl (2196, [some (.ref 30), some (.ref 0), some (.ref 19), some (.ref 29), some (.int i), none, none, none], [.ref 29, .int (xs (ix (i + (1 : Int32)))), .ref 0], M, 0))) := by rfl
set_option maxRecDepth 100000 in
theorem bl_30_2 : (fun (L : Nat) (xs : Nat → Int32) (i : Int32) (kk : Int32) (M1 : Mem) => run (C_law_30 L xs) 6 (2199, [some (.ref 30), some (.ref 0), some (.ref 19), some (.ref 29), some (.int i), none, none, none], [.int kk], M1, 1)) = (fun (L : Nat) (xs : Nat → Int32) (i : Int32) (kk : Int32) (M1 : Mem) => some (.inl (2207, [some (.ref 30), some (.ref 0), some (.ref 19), some (.ref 29), some (.int i), some (.int kk), none, none], [.int (i + (1 : Int32)), .ref 30, .ref 19], M1, 1))) := by rfl
set_option maxRecDepth 100000 in
theorem bl_30_3 : (fun (L : Nat) (xs : Nat → Int32) (i : Int32) (kk : Int32) (b : Int32) (M2 : Mem) => run (C_law_30 L xs) 4 (2211, [some (.ref 30), some (.ref 0), some (.ref 19), some (.ref 29), some (.int i), some (.int kk), none, none], [.int b], M2, 1)) = (fun (L : Nat) (xs : Nat → Int32) (i : Int32) (kk : Int32) (b : Int32) (M2 : Mem) => some (.inl (2219, [some (.ref 30), some (.ref 0), some (.ref 19), some (.ref 29), some (.int i), some (.int kk), some (.int b), none], [.int kk, .int (M2.1 19 15)], M2, 1))) := by rfl
set_option maxRecDepth 100000 in
theorem bl_30_4 : (fun (L : Nat) (xs : Nat → Int32) (i : Int32) (kk : Int32) (b : Int32) (M2 : Mem) => run (C_law_30 L xs) 1 (2219, [some (.ref 30), some (.ref 0), some (.ref 19), some (.ref 29), some (.int i), some (.int kk), some (.int b), none], [.int kk, .int (M2.1 19 15)], M2, 1)) = (fun (L : Nat) (xs : Nat → Int32) (i : Int32) (kk : Int32) (b : Int32) (M2 : Mem) => some (.inl ((br (decide ((M2.1 19 15) = kk)) 2219 3 (5)), [some (.ref 30), some (.ref 0), some (.ref 19), some (.ref 29), some (.int i), some (.int kk), some (.int b), none], [], M2, 1))) := by rfl
set_option maxRecDepth 100000 in
theorem bl_30_5 : (fun (L : Nat) (xs : Nat → Int32) (i : Int32) (kk : Int32) (b : Int32) (M2 : Mem) => run (C_law_30 L xs) 1 (2224, [some (.ref 30), some (.ref 0), some (.ref 19), some (.ref 29), some (.int i), some (.int kk), some (.int b), none], [], M2, 1)) = (fun (L : Nat) (xs : Nat → Int32) (i : Int32) (kk : Int32) (b : Int32) (M2 : Mem) => some (.inl (2226, [some (.ref 30), some (.ref 0), some (.ref 19), some (.ref 29), some (.int i), some (.int kk), some (.int b), none], [.int kk], M2, 1))) := by rfl
set_option maxRecDepth 100000 in
theorem bl_30_6 : (fun (L : Nat) (xs : Nat → Int32) (i : Int32) (kk : Int32) (b : Int32) (M2 : Mem) => run (C_law_30 L xs) 1 (2226, [some (.ref 30), some (.ref 0), some (.ref 19), some (.ref 29), some (.int i), some (.int kk), some (.int b), none], [.int kk], M2, 1)) = (fun (L : Nat) (xs : Nat → Int32) (i : Int32) (kk : Int32) (b : Int32) (M2 : Mem) => some (.inl ((br (!decide (kk = 0)) 2226 3 (15)), [some (.ref 30), some (.ref 0), some (.ref 19), some (.ref 29), some (.int i), some (.int kk), some (.int b), none], [], M2, 1))) := by rfl
set_option maxRecDepth 100000 in
theorem bl_30_7 : (fun (L : Nat) (xs : Nat → Int32) (i : Int32) (kk : Int32) (b : Int32) (M2 : Mem) => run (C_law_30 L xs) 2 (2229, [some (.ref 30), some (.ref 0), some (.ref 19), some (.ref 29), some (.int i), some (.int kk), some (.int b), none], [], M2, 1)) = (fun (L : Nat) (xs : Nat → Int32) (i : Int32) (kk : Int32) (b : Int32) (M2 : Mem) => some (.inl (2231, [some (.ref 30), some (.ref 0), some (.ref 19), some (.ref 29), some (.int i), some (.int kk), some (.int b), none], [.int (0 : Int32), .ref 29], M2, 1))) := by rfl
set_option maxRecDepth 100000 in
theorem bl_30_8 : (fun (L : Nat) (xs : Nat → Int32) (i : Int32) (kk : Int32) (b : Int32) (M2 : Mem) => run (C_law_30 L xs) 3 (2232, [some (.ref 30), some (.ref 0), some (.ref 19), some (.ref 29), some (.int i), some (.int kk), some (.int b), none], [.long (M2.2 29 0)], M2, 1)) = (fun (L : Nat) (xs : Nat → Int32) (i : Int32) (kk : Int32) (b : Int32) (M2 : Mem) => some (.inl (2236, [some (.ref 30), some (.ref 0), some (.ref 19), some (.ref 29), some (.int i), some (.int kk), some (.int b), none], [.int (lg_cmp (M2.2 29 0) b.toInt64)], M2, 1))) := by rfl
set_option maxRecDepth 100000 in
theorem bl_30_9 : (fun (L : Nat) (xs : Nat → Int32) (i : Int32) (kk : Int32) (b : Int32) (M2 : Mem) => run (C_law_30 L xs) 1 (2236, [some (.ref 30), some (.ref 0), some (.ref 19), some (.ref 29), some (.int i), some (.int kk), some (.int b), none], [.int (lg_cmp (M2.2 29 0) b.toInt64)], M2, 1)) = (fun (L : Nat) (xs : Nat → Int32) (i : Int32) (kk : Int32) (b : Int32) (M2 : Mem) => some (.inl ((br (decide ((lg_cmp (M2.2 29 0) b.toInt64) = 0)) 2236 3 (5)), [some (.ref 30), some (.ref 0), some (.ref 19), some (.ref 29), some (.int i), some (.int kk), some (.int b), none], [], M2, 1))) := by rfl
set_option maxRecDepth 100000 in
theorem bl_30_10 : (fun (L : Nat) (xs : Nat → Int32) (i : Int32) (kk : Int32) (b : Int32) (M2 : Mem) => run (C_law_30 L xs) 1 (2241, [some (.ref 30), some (.ref 0), some (.ref 19), some (.ref 29), some (.int i), some (.int kk), some (.int b), none], [], M2, 1)) = (fun (L : Nat) (xs : Nat → Int32) (i : Int32) (kk : Int32) (b : Int32) (M2 : Mem) => some (.inl (2244, [some (.ref 30), some (.ref 0), some (.ref 19), some (.ref 29), some (.int i), some (.int kk), some (.int b), none], [], M2, 1))) := by rfl
set_option maxRecDepth 100000 in
theorem bl_30_11 : (fun (L : Nat) (xs : Nat → Int32) (i : Int32) (kk : Int32) (b : Int32) (M2 : Mem) => run (C_law_30 L xs) 2 (2244, [some (.ref 30), some (.ref 0), some (.ref 19), some (.ref 29), some (.int i), some (.int kk), some (.int b), none], [], M2, 1)) = (fun (L : Nat) (xs : Nat → Int32) (i : Int32) (kk : Int32) (b : Int32) (M2 : Mem) => some (.inl (23, [some (.ref 30), some (.ref 0), some (.ref 19), some (.ref 29), some (.int (i + (5 : Int32))), some (.int kk), some (.int b), none], [], M2, 1))) := by rfl
set_option maxRecDepth 100000 in
theorem bl_30_12 : (fun (L : Nat) (xs : Nat → Int32) (i : Int32) (kk : Int32) (b : Int32) (M2 : Mem) => run (C_law_30 L xs) 1 (2241, [some (.ref 30), some (.ref 0), some (.ref 19), some (.ref 29), some (.int i), some (.int kk), some (.int b), none], [], M2, 1)) = (fun (L : Nat) (xs : Nat → Int32) (i : Int32) (kk : Int32) (b : Int32) (M2 : Mem) => some (.inl (2244, [some (.ref 30), some (.ref 0), some (.ref 19), some (.ref 29), some (.int i), some (.int kk), some (.int b), none], [], M2, 1))) := by rfl
set_option maxRecDepth 100000 in
theorem bl_30_13 : (fun (L : Nat) (xs : Nat → Int32) (i : Int32) (kk : Int32) (b : Int32) (M2 : Mem) => run (C_law_30 L xs) 2 (2244, [some (.ref 30), some (.ref 0), some (.ref 19), some (.ref 29), some (.int i), some (.int kk), some (.int b), none], [], M2, 1)) = (fun (L : Nat) (xs : Nat → Int32) (i : Int32) (kk : Int32) (b : Int32) (M2 : Mem) => some (.inl (23, [some (.ref 30), some (.ref 0), some (.ref 19), some (.ref 29), some (.int (i + (5 : Int32))), some (.int kk), some (.int b), none], [], M2, 1))) := by rfl
theorem cz_30 {L : Nat} {xs : Nat → Int32} {i : Int32} {M : Mem} (h : Inv M) (i1 : inb (i + (1 : Int32)) L = true) : ∃ (M' : Mem) (k : Nat), k ≤ 8 ∧ Inv M' ∧ Rto (C_law_30 L xs) (2188, loL i, [], M, 0) (23, loL (i + (5 : Int32)), [], M', k) := by
  obtain ⟨kk, b, M1, M2, hF, hG, ht, ho, hI⟩ := cs_of h (xs (ix (i + (1 : Int32))))
  refine ⟨M2, 1, by decide, hI, ?_⟩
  refine Rto.trans (Rto.run 5 (congrFun (congrFun (congrFun (congrFun bl_30_0 L) xs) i) M)) ?_
  refine Rto.trans (Rto.run 1 (run_ld rfl rfl rfl i1)) ?_
  show Rto (C_law_30 L xs) (2195, [some (.ref 30), some (.ref 0), some (.ref 19), some (.ref 29), some (.int i), none, none, none], [.int (xs (ix (i + (1 : Int32)))), .ref 0], M, 0) _
  refine Rto.trans (Rto.run 1 (congrFun (congrFun (congrFun (congrFun bl_30_1 L) xs) i) M)) ?_
  refine Rto.trans (Rto.run 1 (run_callS (v := some (.int kk)) rfl rfl rfl rfl hF)) ?_
  show Rto (C_law_30 L xs) (2199, [some (.ref 30), some (.ref 0), some (.ref 19), some (.ref 29), some (.int i), none, none, none], [.int kk], M1, 1) _
  refine Rto.trans (Rto.run 6 (congrFun (congrFun (congrFun (congrFun (congrFun bl_30_2 L) xs) i) kk) M1)) ?_
  refine Rto.trans (Rto.run 1 (run_ld rfl rfl rfl i1)) ?_
  show Rto (C_law_30 L xs) (2208, [some (.ref 30), some (.ref 0), some (.ref 19), some (.ref 29), some (.int i), some (.int kk), none, none], [.int (xs (ix (i + (1 : Int32)))), .ref 19], M1, 1) _
  refine Rto.trans (Rto.run 1 (run_callV (v := some (.int b)) rfl rfl rfl rfl rfl hG)) ?_
  show Rto (C_law_30 L xs) (2211, [some (.ref 30), some (.ref 0), some (.ref 19), some (.ref 29), some (.int i), some (.int kk), none, none], [.int b], M2, 1) _
  refine Rto.trans (Rto.run 4 (congrFun (congrFun (congrFun (congrFun (congrFun (congrFun bl_30_3 L) xs) i) kk) b) M2)) ?_
  refine Rto.trans (Rto.run 1 (congrFun (congrFun (congrFun (congrFun (congrFun (congrFun bl_30_4 L) xs) i) kk) b) M2)) ?_
  refine Rto.trans (Rto.brT (q := 2224) ht rfl) ?_
  refine Rto.trans (Rto.run 1 (congrFun (congrFun (congrFun (congrFun (congrFun (congrFun bl_30_5 L) xs) i) kk) b) M2)) ?_
  refine Rto.trans (Rto.run 1 (congrFun (congrFun (congrFun (congrFun (congrFun (congrFun bl_30_6 L) xs) i) kk) b) M2)) ?_
  by_cases hk : kk = 0
  · refine Rto.trans (Rto.brNF (q := 2229) hk rfl) ?_
    refine Rto.trans (Rto.run 2 (congrFun (congrFun (congrFun (congrFun (congrFun (congrFun bl_30_7 L) xs) i) kk) b) M2)) ?_
    refine Rto.trans (Rto.run 1 (run_out rfl rfl rfl)) ?_
    show Rto (C_law_30 L xs) (2232, [some (.ref 30), some (.ref 0), some (.ref 19), some (.ref 29), some (.int i), some (.int kk), some (.int b), none], [.long (M2.2 29 0)], M2, 1) _
    refine Rto.trans (Rto.run 3 (congrFun (congrFun (congrFun (congrFun (congrFun (congrFun bl_30_8 L) xs) i) kk) b) M2)) ?_
    refine Rto.trans (Rto.run 1 (congrFun (congrFun (congrFun (congrFun (congrFun (congrFun bl_30_9 L) xs) i) kk) b) M2)) ?_
    refine Rto.trans (Rto.brT (q := 2241) (lg_cmp_eq _ _ |>.mpr (ho hk)) rfl) ?_
    refine Rto.trans (Rto.run 1 (congrFun (congrFun (congrFun (congrFun (congrFun (congrFun bl_30_10 L) xs) i) kk) b) M2)) ?_
    refine Rto.trans (Rto.run 2 (congrFun (congrFun (congrFun (congrFun (congrFun (congrFun bl_30_11 L) xs) i) kk) b) M2)) ?_
    exact Rto.fgt [5, 6, 7] rfl
  · refine Rto.trans (Rto.brNT (q := 2241) hk rfl) ?_
    refine Rto.trans (Rto.run 1 (congrFun (congrFun (congrFun (congrFun (congrFun (congrFun bl_30_12 L) xs) i) kk) b) M2)) ?_
    refine Rto.trans (Rto.run 2 (congrFun (congrFun (congrFun (congrFun (congrFun (congrFun bl_30_13 L) xs) i) kk) b) M2)) ?_
    exact Rto.fgt [5, 6, 7] rfl
