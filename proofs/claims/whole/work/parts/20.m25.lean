/-! methods: X8_put, X8_wipe, X8_zero, X8_constant -/
def t_X8_put : List (Nat × Instr × Nat) := [(0, .aload_n 0, 1), (1, .aload_n 0, 1), (2, .iload_n 1, 1), (3, .invokevirtual 78, 3), (6, .ifCond .ne 7, 3), (9, .iconst 1, 1), (10, .goto 17, 3), (13, .aload_n 0, 1), (14, .getfield 72, 3), (17, .bipush 12, 2), (19, .if_icmp .ne 7, 3), (22, .iconst 2, 1), (23, .goto 4, 3), (26, .iconst 0, 1), (27, .putfield 46, 3), (30, .aload_n 0, 1), (31, .getfield 46, 3), (34, .ifCond .le 5, 3), (37, .iconst 0, 1), (38, .ireturn, 1), (39, .aload_n 0, 1), (40, .getfield 20, 3), (43, .aload_n 0, 1), (44, .getfield 72, 3), (47, .iload_n 1, 1), (48, .iastore, 1), (49, .aload_n 0, 1), (50, .dup, 1), (51, .getfield 72, 3), (54, .iconst 1, 1), (55, .iadd, 1), (56, .putfield 72, 3), (59, .aload_n 0, 1), (60, .getfield 72, 3), (63, .ireturn, 1)]
theorem tk_X8_put : ∀ x ∈ t_X8_put, decode cX8_put x.1 = .ok x.2 := by decide +kernel
def C_X8_put : Cfg := (t_X8_put, csF, fl_X8, [(78, 2, 6, 2, 0, fn_X8_isElement)], in_X8, lg_X8, [], [], none, (some .int), 0)
set_option maxRecDepth 100000 in
theorem b_X8_put_0 : (fun (v1 : Int32) (M : Mem) => run C_X8_put 5 (0, [some (.ref 19), some (.int v1)], [], M, 0)) = (fun (v1 : Int32) (M : Mem) => some (.inl ((br (!decide ((d_X8_isElement v1 M) = 0)) 6 3 (7)), [some (.ref 19), some (.int v1)], [.ref 19], M, 0))) := by rfl
set_option maxRecDepth 100000 in
theorem b_X8_put_1 : (fun (v1 : Int32) (M : Mem) => run C_X8_put 4 (13, [some (.ref 19), some (.int v1)], [.ref 19], M, 0)) = (fun (v1 : Int32) (M : Mem) => some (.inl ((br (!decide ((M.1 19 4) = (12 : Int32))) 19 3 (7)), [some (.ref 19), some (.int v1)], [.ref 19], M, 0))) := by rfl
set_option maxRecDepth 100000 in
theorem b_X8_put_2 : (fun (v1 : Int32) (M : Mem) => run C_X8_put 1 (26, [some (.ref 19), some (.int v1)], [.ref 19], M, 0)) = (fun (v1 : Int32) (M : Mem) => some (.inl (27, [some (.ref 19), some (.int v1)], [.int (0 : Int32), .ref 19], M, 0))) := by rfl
set_option maxRecDepth 100000 in
theorem b_X8_put_3 : (fun (v1 : Int32) (M : Mem) => run C_X8_put 2 (22, [some (.ref 19), some (.int v1)], [.ref 19], M, 0)) = (fun (v1 : Int32) (M : Mem) => some (.inl (27, [some (.ref 19), some (.int v1)], [.int (2 : Int32), .ref 19], M, 0))) := by rfl
theorem m_X8_put_0 (v1 : Int32) (M : Mem) : Rto C_X8_put (13, [some (.ref 19), some (.int v1)], [.ref 19], M, 0) (27, [some (.ref 19), some (.int v1)], [.int (if (M.1 19 4) = (12 : Int32) then (2 : Int32) else (0 : Int32)), .ref 19], M, 0) := by
  refine Rto.trans (Rto.run 4 (congrFun (congrFun b_X8_put_1 v1) M)) ?_
  by_cases h : (M.1 19 4) = (12 : Int32)
  · refine Rto.trans (Rto.brNF (q := 22) h rfl) ?_
    refine Rto.trans (Rto.run 2 (congrFun (congrFun b_X8_put_3 v1) M)) ?_
    exact Rto.eq (by first | (simp only [if_pos h]; done) | rfl | exact absurd rfl h | (simp; done))
  · refine Rto.trans (Rto.brNT (q := 26) h rfl) ?_
    refine Rto.trans (Rto.run 1 (congrFun (congrFun b_X8_put_2 v1) M)) ?_
    exact Rto.eq (by first | (simp only [if_neg h]; done) | rfl | exact absurd rfl h | (simp; done))
set_option maxRecDepth 100000 in
theorem b_X8_put_4 : (fun (v1 : Int32) (M : Mem) => run C_X8_put 2 (9, [some (.ref 19), some (.int v1)], [.ref 19], M, 0)) = (fun (v1 : Int32) (M : Mem) => some (.inl (27, [some (.ref 19), some (.int v1)], [.int (1 : Int32), .ref 19], M, 0))) := by rfl
theorem m_X8_put_1 (v1 : Int32) (M : Mem) : Rto C_X8_put (0, [some (.ref 19), some (.int v1)], [], M, 0) (27, [some (.ref 19), some (.int v1)], [.int (if (d_X8_isElement v1 M) = 0 then (1 : Int32) else (if (M.1 19 4) = (12 : Int32) then (2 : Int32) else (0 : Int32))), .ref 19], M, 0) := by
  refine Rto.trans (Rto.run 5 (congrFun (congrFun b_X8_put_0 v1) M)) ?_
  by_cases h : (d_X8_isElement v1 M) = 0
  · refine Rto.trans (Rto.brNF (q := 9) h rfl) ?_
    refine Rto.trans (Rto.run 2 (congrFun (congrFun b_X8_put_4 v1) M)) ?_
    exact Rto.eq (by first | (simp only [if_pos h]; done) | rfl | exact absurd rfl h | (simp; done))
  · refine Rto.trans (Rto.brNT (q := 13) h rfl) ?_
    refine Rto.trans (m_X8_put_0 v1 M) ?_
    exact Rto.eq (by first | (simp only [if_neg h]; done) | rfl | exact absurd rfl h | (simp; done))
set_option maxRecDepth 100000 in
theorem b_X8_put_5 : (fun (v1 : Int32) (M : Mem) => run C_X8_put 4 (27, [some (.ref 19), some (.int v1)], [.int (if (d_X8_isElement v1 M) = 0 then (1 : Int32) else (if (M.1 19 4) = (12 : Int32) then (2 : Int32) else (0 : Int32))), .ref 19], M, 0)) = (fun (v1 : Int32) (M : Mem) => some (.inl ((br (decide ((if (d_X8_isElement v1 M) = 0 then (1 : Int32) else (if (M.1 19 4) = (12 : Int32) then (2 : Int32) else (0 : Int32))) ≤ 0)) 34 3 (5)), [some (.ref 19), some (.int v1)], [], (sI M 19 15 (if (d_X8_isElement v1 M) = 0 then (1 : Int32) else (if (M.1 19 4) = (12 : Int32) then (2 : Int32) else (0 : Int32)))), 0))) := by rfl
set_option maxRecDepth 100000 in
theorem b_X8_put_6 : (fun (v1 : Int32) (M : Mem) => run C_X8_put 5 (39, [some (.ref 19), some (.int v1)], [], (sI M 19 15 (if (d_X8_isElement v1 M) = 0 then (1 : Int32) else (if (M.1 19 4) = (12 : Int32) then (2 : Int32) else (0 : Int32)))), 0)) = (fun (v1 : Int32) (M : Mem) => some (.inl (48, [some (.ref 19), some (.int v1)], [.int v1, .int (M.1 19 4), .ref 21], (sI M 19 15 (if (d_X8_isElement v1 M) = 0 then (1 : Int32) else (if (M.1 19 4) = (12 : Int32) then (2 : Int32) else (0 : Int32)))), 0))) := by rfl
set_option maxRecDepth 100000 in
theorem b_X8_put_7 : (fun (v1 : Int32) (M : Mem) => stp C_X8_put (48, [some (.ref 19), some (.int v1)], [.int v1, .int (M.1 19 4), .ref 21], (sI M 19 15 (if (d_X8_isElement v1 M) = 0 then (1 : Int32) else (if (M.1 19 4) = (12 : Int32) then (2 : Int32) else (0 : Int32)))), 0)) = (fun (v1 : Int32) (M : Mem) => (if inb (M.1 19 4) 12 = true then some (.inl (49, [some (.ref 19), some (.int v1)], [], (sI (sI M 19 15 (if (d_X8_isElement v1 M) = 0 then (1 : Int32) else (if (M.1 19 4) = (12 : Int32) then (2 : Int32) else (0 : Int32)))) 21 (ix (M.1 19 4)) v1), 0)) else none)) := by rfl
set_option maxRecDepth 100000 in
theorem b_X8_put_8 : (fun (v1 : Int32) (M : Mem) => run C_X8_put 9 (49, [some (.ref 19), some (.int v1)], [], (sI (sI M 19 15 (if (d_X8_isElement v1 M) = 0 then (1 : Int32) else (if (M.1 19 4) = (12 : Int32) then (2 : Int32) else (0 : Int32)))) 21 (ix (M.1 19 4)) v1), 0)) = (fun (v1 : Int32) (M : Mem) => some (.inr (.inl (some (.int ((M.1 19 4) + (1 : Int32)))), (sI (sI (sI M 19 15 (if (d_X8_isElement v1 M) = 0 then (1 : Int32) else (if (M.1 19 4) = (12 : Int32) then (2 : Int32) else (0 : Int32)))) 21 (ix (M.1 19 4)) v1) 19 4 ((M.1 19 4) + (1 : Int32))), 0))) := by rfl
set_option maxRecDepth 100000 in
theorem b_X8_put_9 : (fun (v1 : Int32) (M : Mem) => run C_X8_put 2 (37, [some (.ref 19), some (.int v1)], [], (sI M 19 15 (if (d_X8_isElement v1 M) = 0 then (1 : Int32) else (if (M.1 19 4) = (12 : Int32) then (2 : Int32) else (0 : Int32)))), 0)) = (fun (v1 : Int32) (M : Mem) => some (.inr (.inl (some (.int (0 : Int32))), (sI M 19 15 (if (d_X8_isElement v1 M) = 0 then (1 : Int32) else (if (M.1 19 4) = (12 : Int32) then (2 : Int32) else (0 : Int32)))), 0))) := by rfl
def d_X8_put (v1 : Int32) (M : Mem) : Option (Res × Mem) := (if (if (d_X8_isElement v1 M) = 0 then (1 : Int32) else (if (M.1 19 4) = (12 : Int32) then (2 : Int32) else (0 : Int32))) ≤ 0 then (if inb (M.1 19 4) 12 = true then some (.inl (some (.int ((M.1 19 4) + (1 : Int32)))), (sI (sI (sI M 19 15 (if (d_X8_isElement v1 M) = 0 then (1 : Int32) else (if (M.1 19 4) = (12 : Int32) then (2 : Int32) else (0 : Int32)))) 21 (ix (M.1 19 4)) v1) 19 4 ((M.1 19 4) + (1 : Int32)))) else none) else some (.inl (some (.int (0 : Int32))), (sI M 19 15 (if (d_X8_isElement v1 M) = 0 then (1 : Int32) else (if (M.1 19 4) = (12 : Int32) then (2 : Int32) else (0 : Int32))))))
set_option maxHeartbeats 2000000 in
theorem r_X8_put (v1 : Int32) (M : Mem) : RG C_X8_put (0, [some (.ref 19), some (.int v1)], [], M, 0) (d_X8_put v1 M) (fun r => .inr r) := by
  unfold d_X8_put
  refine RG.step (m_X8_put_1 v1 M) ?_
  refine RG.st 4 (congrFun (congrFun b_X8_put_5 v1) M) ?_
  refine RG.ite (fun h1 => RG.brT (q := 39) h1 rfl ?_) (fun h1 => RG.brF (q := 37) h1 rfl ?_)
  · refine RG.st 5 (congrFun (congrFun b_X8_put_6 v1) M) ?_
    refine RG.guard (fun h2 => RG.st 1 (stp_g h2 (congrFun (congrFun b_X8_put_7 v1) M)) ?_)
    exact RG.fin rfl (Rend.run 9 (congrFun (congrFun b_X8_put_8 v1) M))
  · exact RG.fin rfl (Rend.run 2 (congrFun (congrFun b_X8_put_9 v1) M))
def fn_X8_put : Fn := fun av M => match av with
  | [.ref r0, .int v1] => bif Nat.beq r0 19 then (d_X8_put v1 M) else (none)
  | _ => none
theorem cfg_X8_put : CfgOK RX8 cX8_put (C_X8_put) 3 := ⟨tk_X8_put, csF_nd, flk_X8, (List.forall_mem_cons.mpr ⟨Or.inr ⟨yX8_isElement, cX8_isElement, 2, (some .boolean), none, 2, ok_X8_isElement, by decide, by decide, w_code_SumsetryModel_isElement__I_Z, w_initialized_SumsetryModel, ⟨by decide, by decide⟩, Or.inr (Or.inr ⟨rfl, rfl, show (parseMethodDescriptor yX8_isElement.desc).map (fun d => d.parameters.length + 1) = some 2 from by decide +kernel, w_methodLink_SumsetryModel_78, w_instanceMethod_SumsetryModel_isElement__I_Z, w_selects_SumsetryModel_isElement__I_Z, ⟨_, rfl, rfl⟩⟩)⟩, fun _ h => absurd h List.not_mem_nil⟩), ink_X8, lgk_X8, fun e h => absurd h List.not_mem_nil, (fun h hh => absurd hh List.not_mem_nil)⟩
theorem ok_X8_put : OkM csF yX8_put (Cond.code yX8_put cX8_put 2 (some .int)) 3 0 fn_X8_put :=
  OkM_of (own := RX8) (C := C_X8_put) (by decide +kernel) rfl (cfg_X8_put) rfl rfl rfl rfl (by
    intro av M o M' h
    unfold fn_X8_put at h
    split at h
    · rename_i r0 v1
      rcases bif_cs h with ⟨hb, h⟩ | ⟨-, h⟩
      · skip
        have hr0 := hb
        obtain rfl := Nat.eq_of_beq_eq_true hr0
        exact ⟨rfl, Nat.le_of_ble_eq_true rfl, (r_X8_put v1 M) (o, M') h⟩
      · cases h
    · cases h)
def t_X8_wipe : List (Nat × Instr × Nat) := [(0, .aload_n 0, 1), (1, .iconst 0, 1), (2, .putfield 46, 3), (5, .aload_n 0, 1), (6, .getfield 72, 3), (9, .istore_n 1, 1), (10, .aload_n 0, 1), (11, .iconst 0, 1), (12, .putfield 72, 3), (15, .iload_n 1, 1), (16, .ireturn, 1)]
theorem tk_X8_wipe : ∀ x ∈ t_X8_wipe, decode cX8_wipe x.1 = .ok x.2 := by decide +kernel
def C_X8_wipe : Cfg := (t_X8_wipe, csF, fl_X8, [], in_X8, lg_X8, [], [], none, (some .int), 0)
set_option maxRecDepth 100000 in
theorem b_X8_wipe_0 : (fun (M : Mem) => run C_X8_wipe 11 (0, [some (.ref 19), none], [], M, 0)) = (fun (M : Mem) => some (.inr (.inl (some (.int (M.1 19 4))), (sI (sI M 19 15 (0 : Int32)) 19 4 (0 : Int32)), 0))) := by rfl
def d_X8_wipe (M : Mem) : Option (Res × Mem) := some (.inl (some (.int (M.1 19 4))), (sI (sI M 19 15 (0 : Int32)) 19 4 (0 : Int32)))
set_option maxHeartbeats 2000000 in
theorem r_X8_wipe (M : Mem) : RG C_X8_wipe (0, [some (.ref 19), none], [], M, 0) (d_X8_wipe M) (fun r => .inr r) := by
  unfold d_X8_wipe
  exact RG.fin rfl (Rend.run 11 (congrFun b_X8_wipe_0 M))
def fn_X8_wipe : Fn := fun av M => match av with
  | [.ref r0] => bif Nat.beq r0 19 then (d_X8_wipe M) else (none)
  | _ => none
theorem cfg_X8_wipe : CfgOK RX8 cX8_wipe (C_X8_wipe) 1 := ⟨tk_X8_wipe, csF_nd, flk_X8, (fun e h => absurd h List.not_mem_nil), ink_X8, lgk_X8, fun e h => absurd h List.not_mem_nil, (fun h hh => absurd hh List.not_mem_nil)⟩
theorem ok_X8_wipe : OkM csF yX8_wipe (Cond.code yX8_wipe cX8_wipe 2 (some .int)) 1 0 fn_X8_wipe :=
  OkM_of (own := RX8) (C := C_X8_wipe) (by decide +kernel) rfl (cfg_X8_wipe) rfl rfl rfl rfl (by
    intro av M o M' h
    unfold fn_X8_wipe at h
    split at h
    · rename_i r0
      rcases bif_cs h with ⟨hb, h⟩ | ⟨-, h⟩
      · skip
        have hr0 := hb
        obtain rfl := Nat.eq_of_beq_eq_true hr0
        exact ⟨rfl, Nat.le_of_ble_eq_true rfl, (r_X8_wipe M) (o, M') h⟩
      · cases h
    · cases h)
def t_X8_zero : List (Nat × Instr × Nat) := [(0, .aload_n 0, 1), (1, .iconst 0, 1), (2, .putfield 46, 3), (5, .iconst 0, 1), (6, .istore_n 1, 1), (7, .iconst 1, 1), (8, .istore_n 2, 1), (9, .iload_n 2, 1), (10, .iconst 1, 1), (11, .aload_n 0, 1), (12, .getfield 72, 3), (15, .ishl, 1), (16, .if_icmp .ge 83, 3), (19, .iconst 0, 1), (20, .istore_n 3, 1), (21, .iconst 0, 1), (22, .istore 4, 2), (24, .iload 4, 2), (26, .aload_n 0, 1), (27, .getfield 72, 3), (30, .if_icmp .ge 36, 3), (33, .iload_n 2, 1), (34, .i2l, 1), (35, .iload 4, 2), (37, .invokestatic 60, 3), (40, .ifCond .eq 18, 3), (43, .aload_n 0, 1), (44, .iload_n 3, 1), (45, .aload_n 0, 1), (46, .getfield 20, 3), (49, .iload 4, 2), (51, .iaload, 1), (52, .invokevirtual 128, 3), (55, .goto 4, 3), (58, .iload_n 3, 1), (59, .istore_n 3, 1), (60, .iinc 4 1, 3), (63, .goto (-39), 3), (66, .iload_n 3, 1), (67, .ifCond .ne 24, 3), (70, .iload_n 1, 1), (71, .ifCond .eq 16, 3), (74, .iload_n 2, 1), (75, .i2l, 1), (76, .invokestatic 115, 3), (79, .iload_n 1, 1), (80, .i2l, 1), (81, .invokestatic 115, 3), (84, .if_icmp .ge 7, 3), (87, .iload_n 2, 1), (88, .goto 4, 3), (91, .iload_n 1, 1), (92, .istore_n 1, 1), (93, .iinc 2 1, 3), (96, .goto (-87), 3), (99, .iload_n 1, 1), (100, .ireturn, 1)]
theorem tk_X8_zero : ∀ x ∈ t_X8_zero, decode cX8_zero x.1 = .ok x.2 := by decide +kernel
def C_X8_zero : Cfg := (t_X8_zero, csF, fl_X8, [(60, 0, 6, 2, 0, fn_X8_has), (115, 0, 6, 1, 0, fn_X8_many), (128, 2, 6, 3, 0, fn_X8_added)], in_X8, lg_X8, [], [], none, (some .int), 0)
set_option maxRecDepth 100000 in
theorem b_X8_zero_0 : (fun (M : Mem) => run C_X8_zero 7 (0, [some (.ref 19), none, none, none, none], [], M, 0)) = (fun (M : Mem) => some (.inl (9, [some (.ref 19), some (.int (0 : Int32)), some (.int (1 : Int32)), none, none], [], (sI M 19 15 (0 : Int32)), 0))) := by rfl
set_option maxRecDepth 100000 in
theorem b_X8_zero_1 : (fun (M : Mem) (a1 : (Int32 × Int32)) => run C_X8_zero 6 (9, [some (.ref 19), some (.int a1.1), some (.int a1.2), none, none], [], (sI M 19 15 (0 : Int32)), 0)) = (fun (M : Mem) (a1 : (Int32 × Int32)) => some (.inl ((br (!decide (a1.2 < (jsl (1 : Int32) (M.1 19 4)))) 16 3 (83)), [some (.ref 19), some (.int a1.1), some (.int a1.2), none, none], [], (sI M 19 15 (0 : Int32)), 0))) := by rfl
set_option maxRecDepth 100000 in
theorem b_X8_zero_2 : (fun (M : Mem) (a1 : (Int32 × Int32)) => run C_X8_zero 4 (19, [some (.ref 19), some (.int a1.1), some (.int a1.2), none, none], [], (sI M 19 15 (0 : Int32)), 0)) = (fun (M : Mem) (a1 : (Int32 × Int32)) => some (.inl (24, [some (.ref 19), some (.int a1.1), some (.int a1.2), some (.int (0 : Int32)), some (.int (0 : Int32))], [], (sI M 19 15 (0 : Int32)), 0))) := by rfl
set_option maxRecDepth 100000 in
theorem b_X8_zero_3 : (fun (M : Mem) (a1 : (Int32 × Int32)) (a2 : (Int32 × Int32)) => run C_X8_zero 4 (24, [some (.ref 19), some (.int a1.1), some (.int a1.2), some (.int a2.1), some (.int a2.2)], [], (sI M 19 15 (0 : Int32)), 0)) = (fun (M : Mem) (a1 : (Int32 × Int32)) (a2 : (Int32 × Int32)) => some (.inl ((br (!decide (a2.2 < (M.1 19 4))) 30 3 (36)), [some (.ref 19), some (.int a1.1), some (.int a1.2), some (.int a2.1), some (.int a2.2)], [], (sI M 19 15 (0 : Int32)), 0))) := by rfl
set_option maxRecDepth 100000 in
theorem b_X8_zero_4 : (fun (M : Mem) (a1 : (Int32 × Int32)) (a2 : (Int32 × Int32)) => run C_X8_zero 5 (33, [some (.ref 19), some (.int a1.1), some (.int a1.2), some (.int a2.1), some (.int a2.2)], [], (sI M 19 15 (0 : Int32)), 0)) = (fun (M : Mem) (a1 : (Int32 × Int32)) (a2 : (Int32 × Int32)) => some (.inl ((br (decide ((d_X8_has a1.2.toInt64 a2.2) = 0)) 40 3 (18)), [some (.ref 19), some (.int a1.1), some (.int a1.2), some (.int a2.1), some (.int a2.2)], [], (sI M 19 15 (0 : Int32)), 0))) := by rfl
set_option maxRecDepth 100000 in
theorem b_X8_zero_5 : (fun (M : Mem) (a1 : (Int32 × Int32)) (a2 : (Int32 × Int32)) => run C_X8_zero 4 (58, [some (.ref 19), some (.int a1.1), some (.int a1.2), some (.int a2.1), some (.int a2.2)], [], (sI M 19 15 (0 : Int32)), 0)) = (fun (M : Mem) (a1 : (Int32 × Int32)) (a2 : (Int32 × Int32)) => some (.inl (24, [some (.ref 19), some (.int a1.1), some (.int a1.2), some (.int a2.1), some (.int (a2.2 + (1 : Int32)))], [], (sI M 19 15 (0 : Int32)), 0))) := by rfl
set_option maxRecDepth 100000 in
theorem b_X8_zero_6 : (fun (M : Mem) (a1 : (Int32 × Int32)) (a2 : (Int32 × Int32)) => run C_X8_zero 5 (43, [some (.ref 19), some (.int a1.1), some (.int a1.2), some (.int a2.1), some (.int a2.2)], [], (sI M 19 15 (0 : Int32)), 0)) = (fun (M : Mem) (a1 : (Int32 × Int32)) (a2 : (Int32 × Int32)) => some (.inl (51, [some (.ref 19), some (.int a1.1), some (.int a1.2), some (.int a2.1), some (.int a2.2)], [.int a2.2, .ref 21, .int a2.1, .ref 19], (sI M 19 15 (0 : Int32)), 0))) := by rfl
set_option maxRecDepth 100000 in
theorem b_X8_zero_7 : (fun (M : Mem) (a1 : (Int32 × Int32)) (a2 : (Int32 × Int32)) => stp C_X8_zero (51, [some (.ref 19), some (.int a1.1), some (.int a1.2), some (.int a2.1), some (.int a2.2)], [.int a2.2, .ref 21, .int a2.1, .ref 19], (sI M 19 15 (0 : Int32)), 0)) = (fun (M : Mem) (a1 : (Int32 × Int32)) (a2 : (Int32 × Int32)) => (if inb a2.2 12 = true then some (.inl (52, [some (.ref 19), some (.int a1.1), some (.int a1.2), some (.int a2.1), some (.int a2.2)], [.int (M.1 21 (ix a2.2)), .int a2.1, .ref 19], (sI M 19 15 (0 : Int32)), 0)) else none)) := by rfl
set_option maxRecDepth 100000 in
theorem b_X8_zero_8 : (fun (M : Mem) (a1 : (Int32 × Int32)) (a2 : (Int32 × Int32)) (w1 : Int32) => run C_X8_zero 4 (55, [some (.ref 19), some (.int a1.1), some (.int a1.2), some (.int a2.1), some (.int a2.2)], [.int w1], (sI M 19 15 (0 : Int32)), 0)) = (fun (M : Mem) (a1 : (Int32 × Int32)) (a2 : (Int32 × Int32)) (w1 : Int32) => some (.inl (24, [some (.ref 19), some (.int a1.1), some (.int a1.2), some (.int w1), some (.int (a2.2 + (1 : Int32)))], [], (sI M 19 15 (0 : Int32)), 0))) := by rfl
def g_X8_zero_2 (M : Mem) (a1 : (Int32 × Int32)) : Int32 × Int32 → Option ((Int32 × Int32) ⊕ ((Int32 × Int32) ⊕ (Res × Mem))) := fun (a2 : Int32 × Int32) => (if a2.2 < (M.1 19 4) then (if (d_X8_has a1.2.toInt64 a2.2) = 0 then some (.inl (a2.1, (a2.2 + (1 : Int32)))) else (if inb a2.2 12 = true then ((d_X8_added a2.1 (M.1 21 (ix a2.2)) (sI M 19 15 (0 : Int32))).bind fun w1 => some (.inl (w1, (a2.2 + (1 : Int32))))) else none)) else some (.inr (.inl (a2.1, a2.2))))
set_option maxHeartbeats 2000000 in
theorem l_X8_zero_2 (M : Mem) (a1 : (Int32 × Int32)) : ∀ a2 : Int32 × Int32, RG C_X8_zero ((fun (a2 : Int32 × Int32) => (24, [some (.ref 19), some (.int a1.1), some (.int a1.2), some (.int a2.1), some (.int a2.2)], [], (sI M 19 15 (0 : Int32)), 0)) a2) (g_X8_zero_2 M a1 a2) (lpP (fun (a2 : Int32 × Int32) => (24, [some (.ref 19), some (.int a1.1), some (.int a1.2), some (.int a2.1), some (.int a2.2)], [], (sI M 19 15 (0 : Int32)), 0)) (fun (a2 : Int32 × Int32) => (66, [some (.ref 19), some (.int a1.1), some (.int a1.2), some (.int a2.1), some (.int a2.2)], [], (sI M 19 15 (0 : Int32)), 0)) id) := by
  intro a2
  unfold g_X8_zero_2
  show RG C_X8_zero (24, [some (.ref 19), some (.int a1.1), some (.int a1.2), some (.int a2.1), some (.int a2.2)], [], (sI M 19 15 (0 : Int32)), 0) _ _
  refine RG.st 4 (congrFun (congrFun (congrFun b_X8_zero_3 M) a1) a2) ?_
  refine RG.ite (fun h2 => RG.brNF (q := 33) h2 rfl ?_) (fun h2 => RG.brNT (q := 66) h2 rfl ?_)
  · refine RG.st 5 (congrFun (congrFun (congrFun b_X8_zero_4 M) a1) a2) ?_
    refine RG.ite (fun h3 => RG.brT (q := 58) h3 rfl ?_) (fun h3 => RG.brF (q := 43) h3 rfl ?_)
    · refine RG.st 4 (congrFun (congrFun (congrFun b_X8_zero_5 M) a1) a2) ?_
      exact RG.to rfl (Rto.refl _)
    · refine RG.st 5 (congrFun (congrFun (congrFun b_X8_zero_6 M) a1) a2) ?_
      refine RG.guard (fun h4 => RG.st 1 (stp_g h4 (congrFun (congrFun (congrFun b_X8_zero_7 M) a1) a2)) ?_)
      refine RG.bind (fun w1 h5 => RG.st 1 (run_callV (v := some (.int w1)) rfl rfl rfl rfl rfl (bindI h5)) ?_)
      show RG C_X8_zero (55, [some (.ref 19), some (.int a1.1), some (.int a1.2), some (.int a2.1), some (.int a2.2)], [.int w1], (sI M 19 15 (0 : Int32)), 0) _ _
      refine RG.st 4 (congrFun (congrFun (congrFun (congrFun b_X8_zero_8 M) a1) a2) w1) ?_
      exact RG.to rfl (Rto.refl _)
  · exact RG.to rfl (Rto.refl _)
set_option maxRecDepth 100000 in
theorem b_X8_zero_9 : (fun (M : Mem) (a1 : (Int32 × Int32)) (a3 : (Int32 × Int32)) => run C_X8_zero 2 (66, [some (.ref 19), some (.int a1.1), some (.int a1.2), some (.int a3.1), some (.int a3.2)], [], (sI M 19 15 (0 : Int32)), 0)) = (fun (M : Mem) (a1 : (Int32 × Int32)) (a3 : (Int32 × Int32)) => some (.inl ((br (!decide (a3.1 = 0)) 67 3 (24)), [some (.ref 19), some (.int a1.1), some (.int a1.2), some (.int a3.1), some (.int a3.2)], [], (sI M 19 15 (0 : Int32)), 0))) := by rfl
set_option maxRecDepth 100000 in
theorem b_X8_zero_10 : (fun (M : Mem) (a1 : (Int32 × Int32)) (a3 : (Int32 × Int32)) => run C_X8_zero 2 (70, [some (.ref 19), some (.int a1.1), some (.int a1.2), some (.int a3.1), some (.int a3.2)], [], (sI M 19 15 (0 : Int32)), 0)) = (fun (M : Mem) (a1 : (Int32 × Int32)) (a3 : (Int32 × Int32)) => some (.inl ((br (decide (a1.1 = 0)) 71 3 (16)), [some (.ref 19), some (.int a1.1), some (.int a1.2), some (.int a3.1), some (.int a3.2)], [], (sI M 19 15 (0 : Int32)), 0))) := by rfl
set_option maxRecDepth 100000 in
theorem b_X8_zero_11 : (fun (M : Mem) (a1 : (Int32 × Int32)) (a3 : (Int32 × Int32)) => run C_X8_zero 5 (87, [some (.ref 19), some (.int a1.1), some (.int a1.2), some (.int a3.1), some (.int a3.2)], [], (sI M 19 15 (0 : Int32)), 0)) = (fun (M : Mem) (a1 : (Int32 × Int32)) (a3 : (Int32 × Int32)) => some (.inl (9, [some (.ref 19), some (.int a1.2), some (.int (a1.2 + (1 : Int32))), some (.int a3.1), some (.int a3.2)], [], (sI M 19 15 (0 : Int32)), 0))) := by rfl
set_option maxRecDepth 100000 in
theorem b_X8_zero_12 : (fun (M : Mem) (a1 : (Int32 × Int32)) (a3 : (Int32 × Int32)) => run C_X8_zero 2 (74, [some (.ref 19), some (.int a1.1), some (.int a1.2), some (.int a3.1), some (.int a3.2)], [], (sI M 19 15 (0 : Int32)), 0)) = (fun (M : Mem) (a1 : (Int32 × Int32)) (a3 : (Int32 × Int32)) => some (.inl (76, [some (.ref 19), some (.int a1.1), some (.int a1.2), some (.int a3.1), some (.int a3.2)], [.long a1.2.toInt64], (sI M 19 15 (0 : Int32)), 0))) := by rfl
set_option maxRecDepth 100000 in
theorem b_X8_zero_13 : (fun (M : Mem) (a1 : (Int32 × Int32)) (a3 : (Int32 × Int32)) (w2 : Int32) => run C_X8_zero 2 (79, [some (.ref 19), some (.int a1.1), some (.int a1.2), some (.int a3.1), some (.int a3.2)], [.int w2], (sI M 19 15 (0 : Int32)), 0)) = (fun (M : Mem) (a1 : (Int32 × Int32)) (a3 : (Int32 × Int32)) (w2 : Int32) => some (.inl (81, [some (.ref 19), some (.int a1.1), some (.int a1.2), some (.int a3.1), some (.int a3.2)], [.long a1.1.toInt64, .int w2], (sI M 19 15 (0 : Int32)), 0))) := by rfl
set_option maxRecDepth 100000 in
theorem b_X8_zero_14 : (fun (M : Mem) (a1 : (Int32 × Int32)) (a3 : (Int32 × Int32)) (w2 : Int32) (w3 : Int32) => run C_X8_zero 1 (84, [some (.ref 19), some (.int a1.1), some (.int a1.2), some (.int a3.1), some (.int a3.2)], [.int w3, .int w2], (sI M 19 15 (0 : Int32)), 0)) = (fun (M : Mem) (a1 : (Int32 × Int32)) (a3 : (Int32 × Int32)) (w2 : Int32) (w3 : Int32) => some (.inl ((br (!decide (w2 < w3)) 84 3 (7)), [some (.ref 19), some (.int a1.1), some (.int a1.2), some (.int a3.1), some (.int a3.2)], [], (sI M 19 15 (0 : Int32)), 0))) := by rfl
set_option maxRecDepth 100000 in
theorem b_X8_zero_15 : (fun (M : Mem) (a1 : (Int32 × Int32)) (a3 : (Int32 × Int32)) => run C_X8_zero 1 (91, [some (.ref 19), some (.int a1.1), some (.int a1.2), some (.int a3.1), some (.int a3.2)], [], (sI M 19 15 (0 : Int32)), 0)) = (fun (M : Mem) (a1 : (Int32 × Int32)) (a3 : (Int32 × Int32)) => some (.inl (92, [some (.ref 19), some (.int a1.1), some (.int a1.2), some (.int a3.1), some (.int a3.2)], [.int a1.1], (sI M 19 15 (0 : Int32)), 0))) := by rfl
set_option maxRecDepth 100000 in
theorem b_X8_zero_16 : (fun (M : Mem) (a1 : (Int32 × Int32)) (a3 : (Int32 × Int32)) => run C_X8_zero 2 (87, [some (.ref 19), some (.int a1.1), some (.int a1.2), some (.int a3.1), some (.int a3.2)], [], (sI M 19 15 (0 : Int32)), 0)) = (fun (M : Mem) (a1 : (Int32 × Int32)) (a3 : (Int32 × Int32)) => some (.inl (92, [some (.ref 19), some (.int a1.1), some (.int a1.2), some (.int a3.1), some (.int a3.2)], [.int a1.2], (sI M 19 15 (0 : Int32)), 0))) := by rfl
theorem m_X8_zero_0 (M : Mem) (a1 : (Int32 × Int32)) (a3 : (Int32 × Int32)) (w2 : Int32) (w3 : Int32) : Rto C_X8_zero (84, [some (.ref 19), some (.int a1.1), some (.int a1.2), some (.int a3.1), some (.int a3.2)], [.int w3, .int w2], (sI M 19 15 (0 : Int32)), 0) (92, [some (.ref 19), some (.int a1.1), some (.int a1.2), some (.int a3.1), some (.int a3.2)], [.int (if w2 < w3 then a1.2 else a1.1)], (sI M 19 15 (0 : Int32)), 0) := by
  refine Rto.trans (Rto.run 1 (congrFun (congrFun (congrFun (congrFun (congrFun b_X8_zero_14 M) a1) a3) w2) w3)) ?_
  by_cases h : w2 < w3
  · refine Rto.trans (Rto.brNF (q := 87) h rfl) ?_
    refine Rto.trans (Rto.run 2 (congrFun (congrFun (congrFun b_X8_zero_16 M) a1) a3)) ?_
    exact Rto.eq (by first | (simp only [if_pos h]; done) | rfl | exact absurd rfl h | (simp; done))
  · refine Rto.trans (Rto.brNT (q := 91) h rfl) ?_
    refine Rto.trans (Rto.run 1 (congrFun (congrFun (congrFun b_X8_zero_15 M) a1) a3)) ?_
    exact Rto.eq (by first | (simp only [if_neg h]; done) | rfl | exact absurd rfl h | (simp; done))
set_option maxRecDepth 100000 in
theorem b_X8_zero_17 : (fun (M : Mem) (a1 : (Int32 × Int32)) (a3 : (Int32 × Int32)) (w2 : Int32) (w3 : Int32) => run C_X8_zero 3 (92, [some (.ref 19), some (.int a1.1), some (.int a1.2), some (.int a3.1), some (.int a3.2)], [.int (if w2 < w3 then a1.2 else a1.1)], (sI M 19 15 (0 : Int32)), 0)) = (fun (M : Mem) (a1 : (Int32 × Int32)) (a3 : (Int32 × Int32)) (w2 : Int32) (w3 : Int32) => some (.inl (9, [some (.ref 19), some (.int (if w2 < w3 then a1.2 else a1.1)), some (.int (a1.2 + (1 : Int32))), some (.int a3.1), some (.int a3.2)], [], (sI M 19 15 (0 : Int32)), 0))) := by rfl
set_option maxRecDepth 100000 in
theorem b_X8_zero_18 : (fun (M : Mem) (a1 : (Int32 × Int32)) (a3 : (Int32 × Int32)) => run C_X8_zero 4 (91, [some (.ref 19), some (.int a1.1), some (.int a1.2), some (.int a3.1), some (.int a3.2)], [], (sI M 19 15 (0 : Int32)), 0)) = (fun (M : Mem) (a1 : (Int32 × Int32)) (a3 : (Int32 × Int32)) => some (.inl (9, [some (.ref 19), some (.int a1.1), some (.int (a1.2 + (1 : Int32))), some (.int a3.1), some (.int a3.2)], [], (sI M 19 15 (0 : Int32)), 0))) := by rfl
def g_X8_zero_1 (M : Mem) : Int32 × Int32 → Option ((Int32 × Int32) ⊕ ((Int32 × Int32) ⊕ (Res × Mem))) := fun (a1 : Int32 × Int32) => (if a1.2 < (jsl (1 : Int32) (M.1 19 4)) then (onIt (iter (g_X8_zero_2 M a1) 20000 ((0 : Int32), (0 : Int32))) (fun (a3 : Int32 × Int32) => (if a3.1 = 0 then (if a1.1 = 0 then some (.inl (a1.2, (a1.2 + (1 : Int32)))) else ((d_X8_many a1.2.toInt64).bind fun w2 => ((d_X8_many a1.1.toInt64).bind fun w3 => some (.inl ((if w2 < w3 then a1.2 else a1.1), (a1.2 + (1 : Int32))))))) else some (.inl (a1.1, (a1.2 + (1 : Int32)))))) (fun r => some (.inr (.inr r)))) else some (.inr (.inl (a1.1, a1.2))))
set_option maxHeartbeats 2000000 in
theorem l_X8_zero_1 (M : Mem) : ∀ a1 : Int32 × Int32, RG C_X8_zero ((fun (a1 : Int32 × Int32) => (9, [some (.ref 19), some (.int a1.1), some (.int a1.2), none, none], [], (sI M 19 15 (0 : Int32)), 0)) a1) (g_X8_zero_1 M a1) (lpP (fun (a1 : Int32 × Int32) => (9, [some (.ref 19), some (.int a1.1), some (.int a1.2), none, none], [], (sI M 19 15 (0 : Int32)), 0)) (fun (a1 : Int32 × Int32) => (99, [some (.ref 19), some (.int a1.1), some (.int a1.2), none, none], [], (sI M 19 15 (0 : Int32)), 0)) id) := by
  intro a1
  unfold g_X8_zero_1
  show RG C_X8_zero (9, [some (.ref 19), some (.int a1.1), some (.int a1.2), none, none], [], (sI M 19 15 (0 : Int32)), 0) _ _
  refine RG.st 6 (congrFun (congrFun b_X8_zero_1 M) a1) ?_
  refine RG.ite (fun h1 => RG.brNF (q := 19) h1 rfl ?_) (fun h1 => RG.brNT (q := 99) h1 rfl ?_)
  · refine RG.st 4 (congrFun (congrFun b_X8_zero_2 M) a1) ?_
    refine RG.loop (hd := (fun (a2 : Int32 × Int32) => (24, [some (.ref 19), some (.int a1.1), some (.int a1.2), some (.int a2.1), some (.int a2.2)], [], (sI M 19 15 (0 : Int32)), 0))) (ex := (fun (a2 : Int32 × Int32) => (66, [some (.ref 19), some (.int a1.1), some (.int a1.2), some (.int a2.1), some (.int a2.2)], [], (sI M 19 15 (0 : Int32)), 0))) (rt := id) (l_X8_zero_2 M a1) (fun a3 => ?_) (fun r v h => by cases h; rfl)
    show RG C_X8_zero (66, [some (.ref 19), some (.int a1.1), some (.int a1.2), some (.int a3.1), some (.int a3.2)], [], (sI M 19 15 (0 : Int32)), 0) _ _
    refine RG.st 2 (congrFun (congrFun (congrFun b_X8_zero_9 M) a1) a3) ?_
    refine RG.ite (fun h6 => RG.brNF (q := 70) h6 rfl ?_) (fun h6 => RG.brNT (q := 91) h6 rfl ?_)
    · refine RG.st 2 (congrFun (congrFun (congrFun b_X8_zero_10 M) a1) a3) ?_
      refine RG.ite (fun h7 => RG.brT (q := 87) h7 rfl ?_) (fun h7 => RG.brF (q := 74) h7 rfl ?_)
      · refine RG.st 5 (congrFun (congrFun (congrFun b_X8_zero_11 M) a1) a3) ?_
        exact RG.to rfl (Rto.fgt [3, 4] rfl)
      · refine RG.st 2 (congrFun (congrFun (congrFun b_X8_zero_12 M) a1) a3) ?_
        refine RG.bind (fun w2 h8 => RG.st 1 (run_callS (v := some (.int w2)) rfl rfl rfl rfl (show fn_X8_many [.long a1.2.toInt64] (sI M 19 15 (0 : Int32)) = some (.inl (some (.int w2)), (sI M 19 15 (0 : Int32))) from by unfold fn_X8_many; exact bindI h8)) ?_)
        show RG C_X8_zero (79, [some (.ref 19), some (.int a1.1), some (.int a1.2), some (.int a3.1), some (.int a3.2)], [.int w2], (sI M 19 15 (0 : Int32)), 0) _ _
        refine RG.st 2 (congrFun (congrFun (congrFun (congrFun b_X8_zero_13 M) a1) a3) w2) ?_
        refine RG.bind (fun w3 h9 => RG.st 1 (run_callS (v := some (.int w3)) rfl rfl rfl rfl (show fn_X8_many [.long a1.1.toInt64] (sI M 19 15 (0 : Int32)) = some (.inl (some (.int w3)), (sI M 19 15 (0 : Int32))) from by unfold fn_X8_many; exact bindI h9)) ?_)
        show RG C_X8_zero (84, [some (.ref 19), some (.int a1.1), some (.int a1.2), some (.int a3.1), some (.int a3.2)], [.int w3, .int w2], (sI M 19 15 (0 : Int32)), 0) _ _
        refine RG.step (m_X8_zero_0 M a1 a3 w2 w3) ?_
        refine RG.st 3 (congrFun (congrFun (congrFun (congrFun (congrFun b_X8_zero_17 M) a1) a3) w2) w3) ?_
        exact RG.to rfl (Rto.fgt [3, 4] rfl)
    · refine RG.st 4 (congrFun (congrFun (congrFun b_X8_zero_18 M) a1) a3) ?_
      exact RG.to rfl (Rto.fgt [3, 4] rfl)
  · exact RG.to rfl (Rto.refl _)
set_option maxRecDepth 100000 in
theorem b_X8_zero_19 : (fun (M : Mem) (a4 : (Int32 × Int32)) => run C_X8_zero 2 (99, [some (.ref 19), some (.int a4.1), some (.int a4.2), none, none], [], (sI M 19 15 (0 : Int32)), 0)) = (fun (M : Mem) (a4 : (Int32 × Int32)) => some (.inr (.inl (some (.int a4.1)), (sI M 19 15 (0 : Int32)), 0))) := by rfl
def d_X8_zero (M : Mem) : Option (Res × Mem) := (onIt (iter (g_X8_zero_1 M) 20000 ((0 : Int32), (1 : Int32))) (fun (a4 : Int32 × Int32) => some (.inl (some (.int a4.1)), (sI M 19 15 (0 : Int32)))) (fun r => some r))
set_option maxHeartbeats 2000000 in
theorem r_X8_zero (M : Mem) : RG C_X8_zero (0, [some (.ref 19), none, none, none, none], [], M, 0) (d_X8_zero M) (fun r => .inr r) := by
  unfold d_X8_zero
  refine RG.st 7 (congrFun b_X8_zero_0 M) ?_
  refine RG.loop (hd := (fun (a1 : Int32 × Int32) => (9, [some (.ref 19), some (.int a1.1), some (.int a1.2), none, none], [], (sI M 19 15 (0 : Int32)), 0))) (ex := (fun (a1 : Int32 × Int32) => (99, [some (.ref 19), some (.int a1.1), some (.int a1.2), none, none], [], (sI M 19 15 (0 : Int32)), 0))) (rt := id) (l_X8_zero_1 M) (fun a4 => ?_) (fun r v h => by cases h; rfl)
  show RG C_X8_zero (99, [some (.ref 19), some (.int a4.1), some (.int a4.2), none, none], [], (sI M 19 15 (0 : Int32)), 0) _ _
  exact RG.fin rfl (Rend.run 2 (congrFun (congrFun b_X8_zero_19 M) a4))
def fn_X8_zero : Fn := fun av M => match av with
  | [.ref r0] => bif Nat.beq r0 19 then (d_X8_zero M) else (none)
  | _ => none
theorem cfg_X8_zero : CfgOK RX8 cX8_zero (C_X8_zero) 4 := ⟨tk_X8_zero, csF_nd, flk_X8, (List.forall_mem_cons.mpr ⟨Or.inr ⟨yX8_has, cX8_has, 3, (some .boolean), none, 1, ok_X8_has, by decide, by decide, w_code_SumsetryModel_has__JI_Z, w_initialized_SumsetryModel, ⟨by decide, by decide⟩, Or.inl ⟨rfl, show (parseMethodDescriptor yX8_has.desc).map (fun d => d.parameters.length) = some 2 from by decide +kernel, w_methodLink_SumsetryModel_60, w_static_SumsetryModel_has__JI_Z⟩⟩,
    List.forall_mem_cons.mpr ⟨Or.inr ⟨yX8_many, cX8_many, 4, (some .int), none, 2, ok_X8_many, by decide, by decide, w_code_SumsetryModel_many__J_I, w_initialized_SumsetryModel, ⟨by decide, by decide⟩, Or.inl ⟨rfl, show (parseMethodDescriptor yX8_many.desc).map (fun d => d.parameters.length) = some 1 from by decide +kernel, w_methodLink_SumsetryModel_115, w_static_SumsetryModel_many__J_I⟩⟩,
    List.forall_mem_cons.mpr ⟨Or.inr ⟨yX8_added, cX8_added, 3, (some .int), none, 3, ok_X8_added, by decide, by decide, w_code_SumsetryModel_added__II_I, w_initialized_SumsetryModel, ⟨by decide, by decide⟩, Or.inr (Or.inr ⟨rfl, rfl, show (parseMethodDescriptor yX8_added.desc).map (fun d => d.parameters.length + 1) = some 3 from by decide +kernel, w_methodLink_SumsetryModel_128, w_instanceMethod_SumsetryModel_added__II_I, w_selects_SumsetryModel_added__II_I, ⟨_, rfl, rfl⟩⟩)⟩, fun _ h => absurd h List.not_mem_nil⟩⟩⟩), ink_X8, lgk_X8, fun e h => absurd h List.not_mem_nil, (fun h hh => absurd hh List.not_mem_nil)⟩
theorem ok_X8_zero : OkM csF yX8_zero (Cond.code yX8_zero cX8_zero 5 (some .int)) 4 0 fn_X8_zero :=
  OkM_of (own := RX8) (C := C_X8_zero) (by decide +kernel) rfl (cfg_X8_zero) rfl rfl rfl rfl (by
    intro av M o M' h
    unfold fn_X8_zero at h
    split at h
    · rename_i r0
      rcases bif_cs h with ⟨hb, h⟩ | ⟨-, h⟩
      · skip
        have hr0 := hb
        obtain rfl := Nat.eq_of_beq_eq_true hr0
        exact ⟨rfl, Nat.le_of_ble_eq_true rfl, (r_X8_zero M) (o, M') h⟩
      · cases h
    · cases h)
def t_X8_constant : List (Nat × Instr × Nat) := [(0, .aload_n 0, 1), (1, .aload_n 0, 1), (2, .invokevirtual 49, 3), (5, .bipush 10, 2), (7, .if_icmp .le 7, 3), (10, .iconst 1, 1), (11, .goto 4, 3), (14, .iconst 0, 1), (15, .putfield 46, 3), (18, .aload_n 0, 1), (19, .getfield 46, 3), (22, .ifCond .le 5, 3), (25, .iconst 0, 1), (26, .ireturn, 1), (27, .iconst 0, 1), (28, .istore_n 1, 1), (29, .iload_n 1, 1), (30, .sipush 1024, 3), (33, .if_icmp .ge 24, 3), (36, .aload_n 0, 1), (37, .getfield 40, 3), (40, .iload_n 1, 1), (41, .iload_n 1, 1), (42, .ifCond .ne 7, 3), (45, .iconst 1, 1), (46, .goto 4, 3), (49, .iconst 0, 1), (50, .bastore, 1), (51, .iinc 1 1, 3), (54, .goto (-25), 3), (57, .iconst 0, 1), (58, .istore_n 1, 1), (59, .iconst 1, 1), (60, .istore_n 2, 1), (61, .iload_n 2, 1), (62, .ifCond .eq 157, 3), (65, .iinc 1 1, 3), (68, .iconst 0, 1), (69, .istore_n 2, 1), (70, .iconst 0, 1), (71, .istore_n 3, 1), (72, .iload_n 3, 1), (73, .sipush 1024, 3), (76, .if_icmp .ge 16, 3), (79, .aload_n 0, 1), (80, .getfield 43, 3), (83, .iload_n 3, 1), (84, .iconst 0, 1), (85, .bastore, 1), (86, .iinc 3 1, 3), (89, .goto (-17), 3), (92, .iconst 0, 1), (93, .istore_n 3, 1), (94, .iload_n 3, 1), (95, .sipush 1024, 3), (98, .if_icmp .ge 91, 3), (101, .iconst 1, 1), (102, .istore 4, 2), (104, .iload 4, 2), (106, .aload_n 0, 1), (107, .invokevirtual 49, 3), (110, .if_icmp .ge 73, 3), (113, .aload_n 0, 1), (114, .getfield 40, 3), (117, .iload_n 3, 1), (118, .baload, 1), (119, .ifCond .eq 64, 3), (122, .iload_n 3, 1), (123, .i2l, 1), (124, .lconst 1, 1), (125, .iload 4, 2), (127, .lshl, 1), (128, .lor, 1), (129, .aload_n 0, 1), (130, .iload_n 3, 1), (131, .i2l, 1), (132, .lconst 1, 1), (133, .iload 4, 2), (135, .lshl, 1), (136, .invokevirtual 99, 3), (139, .lor, 1), (140, .l2i, 1), (141, .istore 5, 2), (143, .iload 5, 2), (145, .i2l, 1), (146, .iconst 0, 1), (147, .invokestatic 60, 3), (150, .ifCond .ne 7, 3), (153, .iconst 1, 1), (154, .goto 4, 3), (157, .iconst 0, 1), (158, .istore 6, 2), (160, .aload_n 0, 1), (161, .getfield 43, 3), (164, .iload 5, 2), (166, .dup2, 1), (167, .baload, 1), (168, .iload 6, 2), (170, .ior, 1), (171, .bastore, 1), (172, .iload_n 2, 1), (173, .iload 6, 2), (175, .ior, 1), (176, .istore_n 2, 1), (177, .iinc 4 1, 3), (180, .goto (-76), 3), (183, .iinc 3 1, 3), (186, .goto (-92), 3), (189, .iconst 0, 1), (190, .istore_n 3, 1), (191, .iload_n 3, 1), (192, .sipush 1024, 3), (195, .if_icmp .ge 21, 3), (198, .aload_n 0, 1), (199, .getfield 40, 3), (202, .iload_n 3, 1), (203, .aload_n 0, 1), (204, .getfield 43, 3), (207, .iload_n 3, 1), (208, .baload, 1), (209, .bastore, 1), (210, .iinc 3 1, 3), (213, .goto (-22), 3), (216, .goto (-155), 3), (219, .iload_n 1, 1), (220, .ireturn, 1)]
theorem tk_X8_constant : ∀ x ∈ t_X8_constant, decode cX8_constant x.1 = .ok x.2 := by decide +kernel
def C_X8_constant : Cfg := (t_X8_constant, csF, fl_X8, [(49, 2, 6, 1, 0, fn_X8_size), (60, 0, 6, 2, 0, fn_X8_has), (99, 2, 6, 3, 0, fn_X8_sumOf)], in_X8, lg_X8, [], [], none, (some .int), 0)
set_option maxRecDepth 100000 in
theorem b_X8_constant_0 : (fun (M : Mem) => run C_X8_constant 5 (0, [some (.ref 19), none, none, none, none, none, none], [], M, 0)) = (fun (M : Mem) => some (.inl ((br (decide ((d_X8_size M) ≤ (10 : Int32))) 7 3 (7)), [some (.ref 19), none, none, none, none, none, none], [.ref 19], M, 0))) := by rfl
set_option maxRecDepth 100000 in
theorem b_X8_constant_1 : (fun (M : Mem) => run C_X8_constant 1 (14, [some (.ref 19), none, none, none, none, none, none], [.ref 19], M, 0)) = (fun (M : Mem) => some (.inl (15, [some (.ref 19), none, none, none, none, none, none], [.int (0 : Int32), .ref 19], M, 0))) := by rfl
set_option maxRecDepth 100000 in
theorem b_X8_constant_2 : (fun (M : Mem) => run C_X8_constant 2 (10, [some (.ref 19), none, none, none, none, none, none], [.ref 19], M, 0)) = (fun (M : Mem) => some (.inl (15, [some (.ref 19), none, none, none, none, none, none], [.int (1 : Int32), .ref 19], M, 0))) := by rfl
theorem m_X8_constant_0 (M : Mem) : Rto C_X8_constant (0, [some (.ref 19), none, none, none, none, none, none], [], M, 0) (15, [some (.ref 19), none, none, none, none, none, none], [.int (if (d_X8_size M) ≤ (10 : Int32) then (0 : Int32) else (1 : Int32)), .ref 19], M, 0) := by
  refine Rto.trans (Rto.run 5 (congrFun b_X8_constant_0 M)) ?_
  by_cases h : (d_X8_size M) ≤ (10 : Int32)
  · refine Rto.trans (Rto.brT (q := 14) h rfl) ?_
    refine Rto.trans (Rto.run 1 (congrFun b_X8_constant_1 M)) ?_
    exact Rto.eq (by first | (simp only [if_pos h]; done) | rfl | exact absurd rfl h | (simp; done))
  · refine Rto.trans (Rto.brF (q := 10) h rfl) ?_
    refine Rto.trans (Rto.run 2 (congrFun b_X8_constant_2 M)) ?_
    exact Rto.eq (by first | (simp only [if_neg h]; done) | rfl | exact absurd rfl h | (simp; done))
set_option maxRecDepth 100000 in
theorem b_X8_constant_3 : (fun (M : Mem) => run C_X8_constant 4 (15, [some (.ref 19), none, none, none, none, none, none], [.int (if (d_X8_size M) ≤ (10 : Int32) then (0 : Int32) else (1 : Int32)), .ref 19], M, 0)) = (fun (M : Mem) => some (.inl ((br (decide ((if (d_X8_size M) ≤ (10 : Int32) then (0 : Int32) else (1 : Int32)) ≤ 0)) 22 3 (5)), [some (.ref 19), none, none, none, none, none, none], [], (sI M 19 15 (if (d_X8_size M) ≤ (10 : Int32) then (0 : Int32) else (1 : Int32))), 0))) := by rfl
set_option maxRecDepth 100000 in
theorem b_X8_constant_4 : (fun (M : Mem) => run C_X8_constant 2 (27, [some (.ref 19), none, none, none, none, none, none], [], (sI M 19 15 (if (d_X8_size M) ≤ (10 : Int32) then (0 : Int32) else (1 : Int32))), 0)) = (fun (M : Mem) => some (.inl (29, [some (.ref 19), some (.int (0 : Int32)), none, none, none, none, none], [], (sI M 19 15 (if (d_X8_size M) ≤ (10 : Int32) then (0 : Int32) else (1 : Int32))), 0))) := by rfl
set_option maxRecDepth 100000 in
theorem b_X8_constant_5 : (fun (a1 : (Int32 × Mem)) => run C_X8_constant 3 (29, [some (.ref 19), some (.int a1.1), none, none, none, none, none], [], a1.2, 0)) = (fun (a1 : (Int32 × Mem)) => some (.inl ((br (!decide (a1.1 < (1024 : Int32))) 33 3 (24)), [some (.ref 19), some (.int a1.1), none, none, none, none, none], [], a1.2, 0))) := by rfl
set_option maxRecDepth 100000 in
theorem b_X8_constant_6 : (fun (a1 : (Int32 × Mem)) => run C_X8_constant 5 (36, [some (.ref 19), some (.int a1.1), none, none, none, none, none], [], a1.2, 0)) = (fun (a1 : (Int32 × Mem)) => some (.inl ((br (!decide (a1.1 = 0)) 42 3 (7)), [some (.ref 19), some (.int a1.1), none, none, none, none, none], [.int a1.1, .ref 27], a1.2, 0))) := by rfl
set_option maxRecDepth 100000 in
theorem b_X8_constant_7 : (fun (a1 : (Int32 × Mem)) => run C_X8_constant 1 (49, [some (.ref 19), some (.int a1.1), none, none, none, none, none], [.int a1.1, .ref 27], a1.2, 0)) = (fun (a1 : (Int32 × Mem)) => some (.inl (50, [some (.ref 19), some (.int a1.1), none, none, none, none, none], [.int (0 : Int32), .int a1.1, .ref 27], a1.2, 0))) := by rfl
set_option maxRecDepth 100000 in
theorem b_X8_constant_8 : (fun (a1 : (Int32 × Mem)) => run C_X8_constant 2 (45, [some (.ref 19), some (.int a1.1), none, none, none, none, none], [.int a1.1, .ref 27], a1.2, 0)) = (fun (a1 : (Int32 × Mem)) => some (.inl (50, [some (.ref 19), some (.int a1.1), none, none, none, none, none], [.int (1 : Int32), .int a1.1, .ref 27], a1.2, 0))) := by rfl
theorem m_X8_constant_1 (a1 : (Int32 × Mem)) : Rto C_X8_constant (36, [some (.ref 19), some (.int a1.1), none, none, none, none, none], [], a1.2, 0) (50, [some (.ref 19), some (.int a1.1), none, none, none, none, none], [.int (if a1.1 = 0 then (1 : Int32) else (0 : Int32)), .int a1.1, .ref 27], a1.2, 0) := by
  refine Rto.trans (Rto.run 5 (congrFun b_X8_constant_6 a1)) ?_
  by_cases h : a1.1 = 0
  · refine Rto.trans (Rto.brNF (q := 45) h rfl) ?_
    refine Rto.trans (Rto.run 2 (congrFun b_X8_constant_8 a1)) ?_
    exact Rto.eq (by first | (simp only [if_pos h]; done) | rfl | exact absurd rfl h | (simp; done))
  · refine Rto.trans (Rto.brNT (q := 49) h rfl) ?_
    refine Rto.trans (Rto.run 1 (congrFun b_X8_constant_7 a1)) ?_
    exact Rto.eq (by first | (simp only [if_neg h]; done) | rfl | exact absurd rfl h | (simp; done))
set_option maxRecDepth 100000 in
theorem b_X8_constant_9 : (fun (a1 : (Int32 × Mem)) => stp C_X8_constant (50, [some (.ref 19), some (.int a1.1), none, none, none, none, none], [.int (if a1.1 = 0 then (1 : Int32) else (0 : Int32)), .int a1.1, .ref 27], a1.2, 0)) = (fun (a1 : (Int32 × Mem)) => (if inb a1.1 1024 = true then some (.inl (51, [some (.ref 19), some (.int a1.1), none, none, none, none, none], [], (sI a1.2 27 (ix a1.1) ((if a1.1 = 0 then (1 : Int32) else (0 : Int32)) &&& 1)), 0)) else none)) := by rfl
set_option maxRecDepth 100000 in
theorem b_X8_constant_10 : (fun (a1 : (Int32 × Mem)) => run C_X8_constant 2 (51, [some (.ref 19), some (.int a1.1), none, none, none, none, none], [], (sI a1.2 27 (ix a1.1) ((if a1.1 = 0 then (1 : Int32) else (0 : Int32)) &&& 1)), 0)) = (fun (a1 : (Int32 × Mem)) => some (.inl (29, [some (.ref 19), some (.int (a1.1 + (1 : Int32))), none, none, none, none, none], [], (sI a1.2 27 (ix a1.1) ((if a1.1 = 0 then (1 : Int32) else (0 : Int32)) &&& 1)), 0))) := by rfl
def g_X8_constant_1 : Int32 × Mem → Option ((Int32 × Mem) ⊕ ((Int32 × Mem) ⊕ (Res × Mem))) := fun (a1 : Int32 × Mem) => (if a1.1 < (1024 : Int32) then (if inb a1.1 1024 = true then some (.inl ((a1.1 + (1 : Int32)), (sI a1.2 27 (ix a1.1) ((if a1.1 = 0 then (1 : Int32) else (0 : Int32)) &&& 1)))) else none) else some (.inr (.inl (a1.1, a1.2))))
set_option maxHeartbeats 2000000 in
theorem l_X8_constant_1 (M : Mem) : ∀ a1 : Int32 × Mem, RG C_X8_constant ((fun (a1 : Int32 × Mem) => (29, [some (.ref 19), some (.int a1.1), none, none, none, none, none], [], a1.2, 0)) a1) (g_X8_constant_1 a1) (lpP (fun (a1 : Int32 × Mem) => (29, [some (.ref 19), some (.int a1.1), none, none, none, none, none], [], a1.2, 0)) (fun (a1 : Int32 × Mem) => (57, [some (.ref 19), some (.int a1.1), none, none, none, none, none], [], a1.2, 0)) id) := by
  intro a1
  unfold g_X8_constant_1
  show RG C_X8_constant (29, [some (.ref 19), some (.int a1.1), none, none, none, none, none], [], a1.2, 0) _ _
  refine RG.st 3 (congrFun b_X8_constant_5 a1) ?_
  refine RG.ite (fun h2 => RG.brNF (q := 36) h2 rfl ?_) (fun h2 => RG.brNT (q := 57) h2 rfl ?_)
  · refine RG.step (m_X8_constant_1 a1) ?_
    refine RG.guard (fun h3 => RG.st 1 (stp_g h3 (congrFun b_X8_constant_9 a1)) ?_)
    refine RG.st 2 (congrFun b_X8_constant_10 a1) ?_
    exact RG.to rfl (Rto.refl _)
  · exact RG.to rfl (Rto.refl _)
set_option maxRecDepth 100000 in
theorem b_X8_constant_11 : (fun (a2 : (Int32 × Mem)) => run C_X8_constant 4 (57, [some (.ref 19), some (.int a2.1), none, none, none, none, none], [], a2.2, 0)) = (fun (a2 : (Int32 × Mem)) => some (.inl (61, [some (.ref 19), some (.int (0 : Int32)), some (.int (1 : Int32)), none, none, none, none], [], a2.2, 0))) := by rfl
set_option maxRecDepth 100000 in
theorem b_X8_constant_12 : (fun (a3 : (Int32 × Int32 × Mem)) => run C_X8_constant 2 (61, [some (.ref 19), some (.int a3.1), some (.int a3.2.1), none, none, none, none], [], a3.2.2, 0)) = (fun (a3 : (Int32 × Int32 × Mem)) => some (.inl ((br (decide (a3.2.1 = 0)) 62 3 (157)), [some (.ref 19), some (.int a3.1), some (.int a3.2.1), none, none, none, none], [], a3.2.2, 0))) := by rfl
set_option maxRecDepth 100000 in
theorem b_X8_constant_13 : (fun (a3 : (Int32 × Int32 × Mem)) => run C_X8_constant 5 (65, [some (.ref 19), some (.int a3.1), some (.int a3.2.1), none, none, none, none], [], a3.2.2, 0)) = (fun (a3 : (Int32 × Int32 × Mem)) => some (.inl (72, [some (.ref 19), some (.int (a3.1 + (1 : Int32))), some (.int (0 : Int32)), some (.int (0 : Int32)), none, none, none], [], a3.2.2, 0))) := by rfl
set_option maxRecDepth 100000 in
theorem b_X8_constant_14 : (fun (a3 : (Int32 × Int32 × Mem)) (a4 : (Int32 × Mem)) => run C_X8_constant 3 (72, [some (.ref 19), some (.int (a3.1 + (1 : Int32))), some (.int (0 : Int32)), some (.int a4.1), none, none, none], [], a4.2, 0)) = (fun (a3 : (Int32 × Int32 × Mem)) (a4 : (Int32 × Mem)) => some (.inl ((br (!decide (a4.1 < (1024 : Int32))) 76 3 (16)), [some (.ref 19), some (.int (a3.1 + (1 : Int32))), some (.int (0 : Int32)), some (.int a4.1), none, none, none], [], a4.2, 0))) := by rfl
set_option maxRecDepth 100000 in
theorem b_X8_constant_15 : (fun (a3 : (Int32 × Int32 × Mem)) (a4 : (Int32 × Mem)) => run C_X8_constant 4 (79, [some (.ref 19), some (.int (a3.1 + (1 : Int32))), some (.int (0 : Int32)), some (.int a4.1), none, none, none], [], a4.2, 0)) = (fun (a3 : (Int32 × Int32 × Mem)) (a4 : (Int32 × Mem)) => some (.inl (85, [some (.ref 19), some (.int (a3.1 + (1 : Int32))), some (.int (0 : Int32)), some (.int a4.1), none, none, none], [.int (0 : Int32), .int a4.1, .ref 28], a4.2, 0))) := by rfl
set_option maxRecDepth 100000 in
theorem b_X8_constant_16 : (fun (a3 : (Int32 × Int32 × Mem)) (a4 : (Int32 × Mem)) => stp C_X8_constant (85, [some (.ref 19), some (.int (a3.1 + (1 : Int32))), some (.int (0 : Int32)), some (.int a4.1), none, none, none], [.int (0 : Int32), .int a4.1, .ref 28], a4.2, 0)) = (fun (a3 : (Int32 × Int32 × Mem)) (a4 : (Int32 × Mem)) => (if inb a4.1 1024 = true then some (.inl (86, [some (.ref 19), some (.int (a3.1 + (1 : Int32))), some (.int (0 : Int32)), some (.int a4.1), none, none, none], [], (sI a4.2 28 (ix a4.1) (0 : Int32)), 0)) else none)) := by rfl
set_option maxRecDepth 100000 in
theorem b_X8_constant_17 : (fun (a3 : (Int32 × Int32 × Mem)) (a4 : (Int32 × Mem)) => run C_X8_constant 2 (86, [some (.ref 19), some (.int (a3.1 + (1 : Int32))), some (.int (0 : Int32)), some (.int a4.1), none, none, none], [], (sI a4.2 28 (ix a4.1) (0 : Int32)), 0)) = (fun (a3 : (Int32 × Int32 × Mem)) (a4 : (Int32 × Mem)) => some (.inl (72, [some (.ref 19), some (.int (a3.1 + (1 : Int32))), some (.int (0 : Int32)), some (.int (a4.1 + (1 : Int32))), none, none, none], [], (sI a4.2 28 (ix a4.1) (0 : Int32)), 0))) := by rfl
def g_X8_constant_4 : Int32 × Mem → Option ((Int32 × Mem) ⊕ ((Int32 × Mem) ⊕ (Res × Mem))) := fun (a4 : Int32 × Mem) => (if a4.1 < (1024 : Int32) then (if inb a4.1 1024 = true then some (.inl ((a4.1 + (1 : Int32)), (sI a4.2 28 (ix a4.1) (0 : Int32)))) else none) else some (.inr (.inl (a4.1, a4.2))))
set_option maxHeartbeats 2000000 in
theorem l_X8_constant_4 (M : Mem) (a3 : (Int32 × Int32 × Mem)) : ∀ a4 : Int32 × Mem, RG C_X8_constant ((fun (a4 : Int32 × Mem) => (72, [some (.ref 19), some (.int (a3.1 + (1 : Int32))), some (.int (0 : Int32)), some (.int a4.1), none, none, none], [], a4.2, 0)) a4) (g_X8_constant_4 a4) (lpP (fun (a4 : Int32 × Mem) => (72, [some (.ref 19), some (.int (a3.1 + (1 : Int32))), some (.int (0 : Int32)), some (.int a4.1), none, none, none], [], a4.2, 0)) (fun (a4 : Int32 × Mem) => (92, [some (.ref 19), some (.int (a3.1 + (1 : Int32))), some (.int (0 : Int32)), some (.int a4.1), none, none, none], [], a4.2, 0)) id) := by
  intro a4
  unfold g_X8_constant_4
  show RG C_X8_constant (72, [some (.ref 19), some (.int (a3.1 + (1 : Int32))), some (.int (0 : Int32)), some (.int a4.1), none, none, none], [], a4.2, 0) _ _
  refine RG.st 3 (congrFun (congrFun b_X8_constant_14 a3) a4) ?_
  refine RG.ite (fun h5 => RG.brNF (q := 79) h5 rfl ?_) (fun h5 => RG.brNT (q := 92) h5 rfl ?_)
  · refine RG.st 4 (congrFun (congrFun b_X8_constant_15 a3) a4) ?_
    refine RG.guard (fun h6 => RG.st 1 (stp_g h6 (congrFun (congrFun b_X8_constant_16 a3) a4)) ?_)
    refine RG.st 2 (congrFun (congrFun b_X8_constant_17 a3) a4) ?_
    exact RG.to rfl (Rto.refl _)
  · exact RG.to rfl (Rto.refl _)
set_option maxRecDepth 100000 in
theorem b_X8_constant_18 : (fun (a3 : (Int32 × Int32 × Mem)) (a5 : (Int32 × Mem)) => run C_X8_constant 2 (92, [some (.ref 19), some (.int (a3.1 + (1 : Int32))), some (.int (0 : Int32)), some (.int a5.1), none, none, none], [], a5.2, 0)) = (fun (a3 : (Int32 × Int32 × Mem)) (a5 : (Int32 × Mem)) => some (.inl (94, [some (.ref 19), some (.int (a3.1 + (1 : Int32))), some (.int (0 : Int32)), some (.int (0 : Int32)), none, none, none], [], a5.2, 0))) := by rfl
set_option maxRecDepth 100000 in
theorem b_X8_constant_19 : (fun (a3 : (Int32 × Int32 × Mem)) (a6 : (Int32 × Int32 × Mem)) => run C_X8_constant 3 (94, [some (.ref 19), some (.int (a3.1 + (1 : Int32))), some (.int a6.1), some (.int a6.2.1), none, none, none], [], a6.2.2, 0)) = (fun (a3 : (Int32 × Int32 × Mem)) (a6 : (Int32 × Int32 × Mem)) => some (.inl ((br (!decide (a6.2.1 < (1024 : Int32))) 98 3 (91)), [some (.ref 19), some (.int (a3.1 + (1 : Int32))), some (.int a6.1), some (.int a6.2.1), none, none, none], [], a6.2.2, 0))) := by rfl
set_option maxRecDepth 100000 in
theorem b_X8_constant_20 : (fun (a3 : (Int32 × Int32 × Mem)) (a6 : (Int32 × Int32 × Mem)) => run C_X8_constant 2 (101, [some (.ref 19), some (.int (a3.1 + (1 : Int32))), some (.int a6.1), some (.int a6.2.1), none, none, none], [], a6.2.2, 0)) = (fun (a3 : (Int32 × Int32 × Mem)) (a6 : (Int32 × Int32 × Mem)) => some (.inl (104, [some (.ref 19), some (.int (a3.1 + (1 : Int32))), some (.int a6.1), some (.int a6.2.1), some (.int (1 : Int32)), none, none], [], a6.2.2, 0))) := by rfl
set_option maxRecDepth 100000 in
theorem b_X8_constant_21 : (fun (a3 : (Int32 × Int32 × Mem)) (a6 : (Int32 × Int32 × Mem)) (a7 : (Int32 × Int32 × Mem)) => run C_X8_constant 4 (104, [some (.ref 19), some (.int (a3.1 + (1 : Int32))), some (.int a7.1), some (.int a6.2.1), some (.int a7.2.1), none, none], [], a7.2.2, 0)) = (fun (a3 : (Int32 × Int32 × Mem)) (a6 : (Int32 × Int32 × Mem)) (a7 : (Int32 × Int32 × Mem)) => some (.inl ((br (!decide (a7.2.1 < (d_X8_size a7.2.2))) 110 3 (73)), [some (.ref 19), some (.int (a3.1 + (1 : Int32))), some (.int a7.1), some (.int a6.2.1), some (.int a7.2.1), none, none], [], a7.2.2, 0))) := by rfl
set_option maxRecDepth 100000 in
theorem b_X8_constant_22 : (fun (a3 : (Int32 × Int32 × Mem)) (a6 : (Int32 × Int32 × Mem)) (a7 : (Int32 × Int32 × Mem)) => run C_X8_constant 3 (113, [some (.ref 19), some (.int (a3.1 + (1 : Int32))), some (.int a7.1), some (.int a6.2.1), some (.int a7.2.1), none, none], [], a7.2.2, 0)) = (fun (a3 : (Int32 × Int32 × Mem)) (a6 : (Int32 × Int32 × Mem)) (a7 : (Int32 × Int32 × Mem)) => some (.inl (118, [some (.ref 19), some (.int (a3.1 + (1 : Int32))), some (.int a7.1), some (.int a6.2.1), some (.int a7.2.1), none, none], [.int a6.2.1, .ref 27], a7.2.2, 0))) := by rfl
set_option maxRecDepth 100000 in
theorem b_X8_constant_23 : (fun (a3 : (Int32 × Int32 × Mem)) (a6 : (Int32 × Int32 × Mem)) (a7 : (Int32 × Int32 × Mem)) => stp C_X8_constant (118, [some (.ref 19), some (.int (a3.1 + (1 : Int32))), some (.int a7.1), some (.int a6.2.1), some (.int a7.2.1), none, none], [.int a6.2.1, .ref 27], a7.2.2, 0)) = (fun (a3 : (Int32 × Int32 × Mem)) (a6 : (Int32 × Int32 × Mem)) (a7 : (Int32 × Int32 × Mem)) => (if inb a6.2.1 1024 = true then some (.inl (119, [some (.ref 19), some (.int (a3.1 + (1 : Int32))), some (.int a7.1), some (.int a6.2.1), some (.int a7.2.1), none, none], [.int (a7.2.2.1 27 (ix a6.2.1))], a7.2.2, 0)) else none)) := by rfl
set_option maxRecDepth 100000 in
theorem b_X8_constant_24 : (fun (a3 : (Int32 × Int32 × Mem)) (a6 : (Int32 × Int32 × Mem)) (a7 : (Int32 × Int32 × Mem)) => run C_X8_constant 1 (119, [some (.ref 19), some (.int (a3.1 + (1 : Int32))), some (.int a7.1), some (.int a6.2.1), some (.int a7.2.1), none, none], [.int (a7.2.2.1 27 (ix a6.2.1))], a7.2.2, 0)) = (fun (a3 : (Int32 × Int32 × Mem)) (a6 : (Int32 × Int32 × Mem)) (a7 : (Int32 × Int32 × Mem)) => some (.inl ((br (decide ((a7.2.2.1 27 (ix a6.2.1)) = 0)) 119 3 (64)), [some (.ref 19), some (.int (a3.1 + (1 : Int32))), some (.int a7.1), some (.int a6.2.1), some (.int a7.2.1), none, none], [], a7.2.2, 0))) := by rfl
set_option maxRecDepth 100000 in
theorem b_X8_constant_25 : (fun (a3 : (Int32 × Int32 × Mem)) (a6 : (Int32 × Int32 × Mem)) (a7 : (Int32 × Int32 × Mem)) => run C_X8_constant 12 (122, [some (.ref 19), some (.int (a3.1 + (1 : Int32))), some (.int a7.1), some (.int a6.2.1), some (.int a7.2.1), none, none], [], a7.2.2, 0)) = (fun (a3 : (Int32 × Int32 × Mem)) (a6 : (Int32 × Int32 × Mem)) (a7 : (Int32 × Int32 × Mem)) => some (.inl (136, [some (.ref 19), some (.int (a3.1 + (1 : Int32))), some (.int a7.1), some (.int a6.2.1), some (.int a7.2.1), none, none], [.long (jshl (1 : Int64) a7.2.1), .long a6.2.1.toInt64, .ref 19, .long (a6.2.1.toInt64 ||| (jshl (1 : Int64) a7.2.1))], a7.2.2, 0))) := by rfl
set_option maxRecDepth 100000 in
theorem b_X8_constant_26 : (fun (a3 : (Int32 × Int32 × Mem)) (a6 : (Int32 × Int32 × Mem)) (a7 : (Int32 × Int32 × Mem)) (w1 : Int64) => run C_X8_constant 8 (139, [some (.ref 19), some (.int (a3.1 + (1 : Int32))), some (.int a7.1), some (.int a6.2.1), some (.int a7.2.1), none, none], [.long w1, .long (a6.2.1.toInt64 ||| (jshl (1 : Int64) a7.2.1))], a7.2.2, 0)) = (fun (a3 : (Int32 × Int32 × Mem)) (a6 : (Int32 × Int32 × Mem)) (a7 : (Int32 × Int32 × Mem)) (w1 : Int64) => some (.inl ((br (!decide ((d_X8_has ((((a6.2.1.toInt64 ||| (jshl (1 : Int64) a7.2.1)) ||| w1).toInt32).toInt64) (0 : Int32)) = 0)) 150 3 (7)), [some (.ref 19), some (.int (a3.1 + (1 : Int32))), some (.int a7.1), some (.int a6.2.1), some (.int a7.2.1), some (.int (((a6.2.1.toInt64 ||| (jshl (1 : Int64) a7.2.1)) ||| w1).toInt32)), none], [], a7.2.2, 0))) := by rfl
set_option maxRecDepth 100000 in
theorem b_X8_constant_27 : (fun (a3 : (Int32 × Int32 × Mem)) (a6 : (Int32 × Int32 × Mem)) (a7 : (Int32 × Int32 × Mem)) (w1 : Int64) => run C_X8_constant 1 (157, [some (.ref 19), some (.int (a3.1 + (1 : Int32))), some (.int a7.1), some (.int a6.2.1), some (.int a7.2.1), some (.int (((a6.2.1.toInt64 ||| (jshl (1 : Int64) a7.2.1)) ||| w1).toInt32)), none], [], a7.2.2, 0)) = (fun (a3 : (Int32 × Int32 × Mem)) (a6 : (Int32 × Int32 × Mem)) (a7 : (Int32 × Int32 × Mem)) (w1 : Int64) => some (.inl (158, [some (.ref 19), some (.int (a3.1 + (1 : Int32))), some (.int a7.1), some (.int a6.2.1), some (.int a7.2.1), some (.int (((a6.2.1.toInt64 ||| (jshl (1 : Int64) a7.2.1)) ||| w1).toInt32)), none], [.int (0 : Int32)], a7.2.2, 0))) := by rfl
set_option maxRecDepth 100000 in
theorem b_X8_constant_28 : (fun (a3 : (Int32 × Int32 × Mem)) (a6 : (Int32 × Int32 × Mem)) (a7 : (Int32 × Int32 × Mem)) (w1 : Int64) => run C_X8_constant 2 (153, [some (.ref 19), some (.int (a3.1 + (1 : Int32))), some (.int a7.1), some (.int a6.2.1), some (.int a7.2.1), some (.int (((a6.2.1.toInt64 ||| (jshl (1 : Int64) a7.2.1)) ||| w1).toInt32)), none], [], a7.2.2, 0)) = (fun (a3 : (Int32 × Int32 × Mem)) (a6 : (Int32 × Int32 × Mem)) (a7 : (Int32 × Int32 × Mem)) (w1 : Int64) => some (.inl (158, [some (.ref 19), some (.int (a3.1 + (1 : Int32))), some (.int a7.1), some (.int a6.2.1), some (.int a7.2.1), some (.int (((a6.2.1.toInt64 ||| (jshl (1 : Int64) a7.2.1)) ||| w1).toInt32)), none], [.int (1 : Int32)], a7.2.2, 0))) := by rfl
theorem m_X8_constant_2 (a3 : (Int32 × Int32 × Mem)) (a6 : (Int32 × Int32 × Mem)) (a7 : (Int32 × Int32 × Mem)) (w1 : Int64) : Rto C_X8_constant (139, [some (.ref 19), some (.int (a3.1 + (1 : Int32))), some (.int a7.1), some (.int a6.2.1), some (.int a7.2.1), none, none], [.long w1, .long (a6.2.1.toInt64 ||| (jshl (1 : Int64) a7.2.1))], a7.2.2, 0) (158, [some (.ref 19), some (.int (a3.1 + (1 : Int32))), some (.int a7.1), some (.int a6.2.1), some (.int a7.2.1), some (.int (((a6.2.1.toInt64 ||| (jshl (1 : Int64) a7.2.1)) ||| w1).toInt32)), none], [.int (if (d_X8_has ((((a6.2.1.toInt64 ||| (jshl (1 : Int64) a7.2.1)) ||| w1).toInt32).toInt64) (0 : Int32)) = 0 then (1 : Int32) else (0 : Int32))], a7.2.2, 0) := by
  refine Rto.trans (Rto.run 8 (congrFun (congrFun (congrFun (congrFun b_X8_constant_26 a3) a6) a7) w1)) ?_
  by_cases h : (d_X8_has ((((a6.2.1.toInt64 ||| (jshl (1 : Int64) a7.2.1)) ||| w1).toInt32).toInt64) (0 : Int32)) = 0
  · refine Rto.trans (Rto.brNF (q := 153) h rfl) ?_
    refine Rto.trans (Rto.run 2 (congrFun (congrFun (congrFun (congrFun b_X8_constant_28 a3) a6) a7) w1)) ?_
    exact Rto.eq (by first | (simp only [if_pos h]; done) | rfl | exact absurd rfl h | (simp; done))
  · refine Rto.trans (Rto.brNT (q := 157) h rfl) ?_
    refine Rto.trans (Rto.run 1 (congrFun (congrFun (congrFun (congrFun b_X8_constant_27 a3) a6) a7) w1)) ?_
    exact Rto.eq (by first | (simp only [if_neg h]; done) | rfl | exact absurd rfl h | (simp; done))
set_option maxRecDepth 100000 in
theorem b_X8_constant_29 : (fun (a3 : (Int32 × Int32 × Mem)) (a6 : (Int32 × Int32 × Mem)) (a7 : (Int32 × Int32 × Mem)) (w1 : Int64) => run C_X8_constant 5 (158, [some (.ref 19), some (.int (a3.1 + (1 : Int32))), some (.int a7.1), some (.int a6.2.1), some (.int a7.2.1), some (.int (((a6.2.1.toInt64 ||| (jshl (1 : Int64) a7.2.1)) ||| w1).toInt32)), none], [.int (if (d_X8_has ((((a6.2.1.toInt64 ||| (jshl (1 : Int64) a7.2.1)) ||| w1).toInt32).toInt64) (0 : Int32)) = 0 then (1 : Int32) else (0 : Int32))], a7.2.2, 0)) = (fun (a3 : (Int32 × Int32 × Mem)) (a6 : (Int32 × Int32 × Mem)) (a7 : (Int32 × Int32 × Mem)) (w1 : Int64) => some (.inl (167, [some (.ref 19), some (.int (a3.1 + (1 : Int32))), some (.int a7.1), some (.int a6.2.1), some (.int a7.2.1), some (.int (((a6.2.1.toInt64 ||| (jshl (1 : Int64) a7.2.1)) ||| w1).toInt32)), some (.int (if (d_X8_has ((((a6.2.1.toInt64 ||| (jshl (1 : Int64) a7.2.1)) ||| w1).toInt32).toInt64) (0 : Int32)) = 0 then (1 : Int32) else (0 : Int32)))], [.int (((a6.2.1.toInt64 ||| (jshl (1 : Int64) a7.2.1)) ||| w1).toInt32), .ref 28, .int (((a6.2.1.toInt64 ||| (jshl (1 : Int64) a7.2.1)) ||| w1).toInt32), .ref 28], a7.2.2, 0))) := by rfl
set_option maxRecDepth 100000 in
theorem b_X8_constant_30 : (fun (a3 : (Int32 × Int32 × Mem)) (a6 : (Int32 × Int32 × Mem)) (a7 : (Int32 × Int32 × Mem)) (w1 : Int64) => stp C_X8_constant (167, [some (.ref 19), some (.int (a3.1 + (1 : Int32))), some (.int a7.1), some (.int a6.2.1), some (.int a7.2.1), some (.int (((a6.2.1.toInt64 ||| (jshl (1 : Int64) a7.2.1)) ||| w1).toInt32)), some (.int (if (d_X8_has ((((a6.2.1.toInt64 ||| (jshl (1 : Int64) a7.2.1)) ||| w1).toInt32).toInt64) (0 : Int32)) = 0 then (1 : Int32) else (0 : Int32)))], [.int (((a6.2.1.toInt64 ||| (jshl (1 : Int64) a7.2.1)) ||| w1).toInt32), .ref 28, .int (((a6.2.1.toInt64 ||| (jshl (1 : Int64) a7.2.1)) ||| w1).toInt32), .ref 28], a7.2.2, 0)) = (fun (a3 : (Int32 × Int32 × Mem)) (a6 : (Int32 × Int32 × Mem)) (a7 : (Int32 × Int32 × Mem)) (w1 : Int64) => (if inb (((a6.2.1.toInt64 ||| (jshl (1 : Int64) a7.2.1)) ||| w1).toInt32) 1024 = true then some (.inl (168, [some (.ref 19), some (.int (a3.1 + (1 : Int32))), some (.int a7.1), some (.int a6.2.1), some (.int a7.2.1), some (.int (((a6.2.1.toInt64 ||| (jshl (1 : Int64) a7.2.1)) ||| w1).toInt32)), some (.int (if (d_X8_has ((((a6.2.1.toInt64 ||| (jshl (1 : Int64) a7.2.1)) ||| w1).toInt32).toInt64) (0 : Int32)) = 0 then (1 : Int32) else (0 : Int32)))], [.int (a7.2.2.1 28 (ix (((a6.2.1.toInt64 ||| (jshl (1 : Int64) a7.2.1)) ||| w1).toInt32))), .int (((a6.2.1.toInt64 ||| (jshl (1 : Int64) a7.2.1)) ||| w1).toInt32), .ref 28], a7.2.2, 0)) else none)) := by rfl
set_option maxRecDepth 100000 in
theorem b_X8_constant_31 : (fun (a3 : (Int32 × Int32 × Mem)) (a6 : (Int32 × Int32 × Mem)) (a7 : (Int32 × Int32 × Mem)) (w1 : Int64) => run C_X8_constant 2 (168, [some (.ref 19), some (.int (a3.1 + (1 : Int32))), some (.int a7.1), some (.int a6.2.1), some (.int a7.2.1), some (.int (((a6.2.1.toInt64 ||| (jshl (1 : Int64) a7.2.1)) ||| w1).toInt32)), some (.int (if (d_X8_has ((((a6.2.1.toInt64 ||| (jshl (1 : Int64) a7.2.1)) ||| w1).toInt32).toInt64) (0 : Int32)) = 0 then (1 : Int32) else (0 : Int32)))], [.int (a7.2.2.1 28 (ix (((a6.2.1.toInt64 ||| (jshl (1 : Int64) a7.2.1)) ||| w1).toInt32))), .int (((a6.2.1.toInt64 ||| (jshl (1 : Int64) a7.2.1)) ||| w1).toInt32), .ref 28], a7.2.2, 0)) = (fun (a3 : (Int32 × Int32 × Mem)) (a6 : (Int32 × Int32 × Mem)) (a7 : (Int32 × Int32 × Mem)) (w1 : Int64) => some (.inl (171, [some (.ref 19), some (.int (a3.1 + (1 : Int32))), some (.int a7.1), some (.int a6.2.1), some (.int a7.2.1), some (.int (((a6.2.1.toInt64 ||| (jshl (1 : Int64) a7.2.1)) ||| w1).toInt32)), some (.int (if (d_X8_has ((((a6.2.1.toInt64 ||| (jshl (1 : Int64) a7.2.1)) ||| w1).toInt32).toInt64) (0 : Int32)) = 0 then (1 : Int32) else (0 : Int32)))], [.int ((a7.2.2.1 28 (ix (((a6.2.1.toInt64 ||| (jshl (1 : Int64) a7.2.1)) ||| w1).toInt32))) ||| (if (d_X8_has ((((a6.2.1.toInt64 ||| (jshl (1 : Int64) a7.2.1)) ||| w1).toInt32).toInt64) (0 : Int32)) = 0 then (1 : Int32) else (0 : Int32))), .int (((a6.2.1.toInt64 ||| (jshl (1 : Int64) a7.2.1)) ||| w1).toInt32), .ref 28], a7.2.2, 0))) := by rfl
set_option maxRecDepth 100000 in
theorem b_X8_constant_32 : (fun (a3 : (Int32 × Int32 × Mem)) (a6 : (Int32 × Int32 × Mem)) (a7 : (Int32 × Int32 × Mem)) (w1 : Int64) => stp C_X8_constant (171, [some (.ref 19), some (.int (a3.1 + (1 : Int32))), some (.int a7.1), some (.int a6.2.1), some (.int a7.2.1), some (.int (((a6.2.1.toInt64 ||| (jshl (1 : Int64) a7.2.1)) ||| w1).toInt32)), some (.int (if (d_X8_has ((((a6.2.1.toInt64 ||| (jshl (1 : Int64) a7.2.1)) ||| w1).toInt32).toInt64) (0 : Int32)) = 0 then (1 : Int32) else (0 : Int32)))], [.int ((a7.2.2.1 28 (ix (((a6.2.1.toInt64 ||| (jshl (1 : Int64) a7.2.1)) ||| w1).toInt32))) ||| (if (d_X8_has ((((a6.2.1.toInt64 ||| (jshl (1 : Int64) a7.2.1)) ||| w1).toInt32).toInt64) (0 : Int32)) = 0 then (1 : Int32) else (0 : Int32))), .int (((a6.2.1.toInt64 ||| (jshl (1 : Int64) a7.2.1)) ||| w1).toInt32), .ref 28], a7.2.2, 0)) = (fun (a3 : (Int32 × Int32 × Mem)) (a6 : (Int32 × Int32 × Mem)) (a7 : (Int32 × Int32 × Mem)) (w1 : Int64) => (if inb (((a6.2.1.toInt64 ||| (jshl (1 : Int64) a7.2.1)) ||| w1).toInt32) 1024 = true then some (.inl (172, [some (.ref 19), some (.int (a3.1 + (1 : Int32))), some (.int a7.1), some (.int a6.2.1), some (.int a7.2.1), some (.int (((a6.2.1.toInt64 ||| (jshl (1 : Int64) a7.2.1)) ||| w1).toInt32)), some (.int (if (d_X8_has ((((a6.2.1.toInt64 ||| (jshl (1 : Int64) a7.2.1)) ||| w1).toInt32).toInt64) (0 : Int32)) = 0 then (1 : Int32) else (0 : Int32)))], [], (sI a7.2.2 28 (ix (((a6.2.1.toInt64 ||| (jshl (1 : Int64) a7.2.1)) ||| w1).toInt32)) (((a7.2.2.1 28 (ix (((a6.2.1.toInt64 ||| (jshl (1 : Int64) a7.2.1)) ||| w1).toInt32))) ||| (if (d_X8_has ((((a6.2.1.toInt64 ||| (jshl (1 : Int64) a7.2.1)) ||| w1).toInt32).toInt64) (0 : Int32)) = 0 then (1 : Int32) else (0 : Int32))) &&& 1)), 0)) else none)) := by rfl
set_option maxRecDepth 100000 in
theorem b_X8_constant_33 : (fun (a3 : (Int32 × Int32 × Mem)) (a6 : (Int32 × Int32 × Mem)) (a7 : (Int32 × Int32 × Mem)) (w1 : Int64) => run C_X8_constant 6 (172, [some (.ref 19), some (.int (a3.1 + (1 : Int32))), some (.int a7.1), some (.int a6.2.1), some (.int a7.2.1), some (.int (((a6.2.1.toInt64 ||| (jshl (1 : Int64) a7.2.1)) ||| w1).toInt32)), some (.int (if (d_X8_has ((((a6.2.1.toInt64 ||| (jshl (1 : Int64) a7.2.1)) ||| w1).toInt32).toInt64) (0 : Int32)) = 0 then (1 : Int32) else (0 : Int32)))], [], (sI a7.2.2 28 (ix (((a6.2.1.toInt64 ||| (jshl (1 : Int64) a7.2.1)) ||| w1).toInt32)) (((a7.2.2.1 28 (ix (((a6.2.1.toInt64 ||| (jshl (1 : Int64) a7.2.1)) ||| w1).toInt32))) ||| (if (d_X8_has ((((a6.2.1.toInt64 ||| (jshl (1 : Int64) a7.2.1)) ||| w1).toInt32).toInt64) (0 : Int32)) = 0 then (1 : Int32) else (0 : Int32))) &&& 1)), 0)) = (fun (a3 : (Int32 × Int32 × Mem)) (a6 : (Int32 × Int32 × Mem)) (a7 : (Int32 × Int32 × Mem)) (w1 : Int64) => some (.inl (104, [some (.ref 19), some (.int (a3.1 + (1 : Int32))), some (.int (a7.1 ||| (if (d_X8_has ((((a6.2.1.toInt64 ||| (jshl (1 : Int64) a7.2.1)) ||| w1).toInt32).toInt64) (0 : Int32)) = 0 then (1 : Int32) else (0 : Int32)))), some (.int a6.2.1), some (.int (a7.2.1 + (1 : Int32))), some (.int (((a6.2.1.toInt64 ||| (jshl (1 : Int64) a7.2.1)) ||| w1).toInt32)), some (.int (if (d_X8_has ((((a6.2.1.toInt64 ||| (jshl (1 : Int64) a7.2.1)) ||| w1).toInt32).toInt64) (0 : Int32)) = 0 then (1 : Int32) else (0 : Int32)))], [], (sI a7.2.2 28 (ix (((a6.2.1.toInt64 ||| (jshl (1 : Int64) a7.2.1)) ||| w1).toInt32)) (((a7.2.2.1 28 (ix (((a6.2.1.toInt64 ||| (jshl (1 : Int64) a7.2.1)) ||| w1).toInt32))) ||| (if (d_X8_has ((((a6.2.1.toInt64 ||| (jshl (1 : Int64) a7.2.1)) ||| w1).toInt32).toInt64) (0 : Int32)) = 0 then (1 : Int32) else (0 : Int32))) &&& 1)), 0))) := by rfl
def g_X8_constant_7 (a6 : (Int32 × Int32 × Mem)) : Int32 × Int32 × Mem → Option ((Int32 × Int32 × Mem) ⊕ ((Int32 × Int32 × Mem) ⊕ (Res × Mem))) := fun (a7 : Int32 × Int32 × Mem) => (if a7.2.1 < (d_X8_size a7.2.2) then (if inb a6.2.1 1024 = true then (if (a7.2.2.1 27 (ix a6.2.1)) = 0 then some (.inr (.inl (a7.1, a7.2.1, a7.2.2))) else ((d_X8_sumOf a6.2.1.toInt64 (jshl (1 : Int64) a7.2.1) a7.2.2).bind fun w1 => (if inb (((a6.2.1.toInt64 ||| (jshl (1 : Int64) a7.2.1)) ||| w1).toInt32) 1024 = true then (if inb (((a6.2.1.toInt64 ||| (jshl (1 : Int64) a7.2.1)) ||| w1).toInt32) 1024 = true then some (.inl ((a7.1 ||| (if (d_X8_has ((((a6.2.1.toInt64 ||| (jshl (1 : Int64) a7.2.1)) ||| w1).toInt32).toInt64) (0 : Int32)) = 0 then (1 : Int32) else (0 : Int32))), (a7.2.1 + (1 : Int32)), (sI a7.2.2 28 (ix (((a6.2.1.toInt64 ||| (jshl (1 : Int64) a7.2.1)) ||| w1).toInt32)) (((a7.2.2.1 28 (ix (((a6.2.1.toInt64 ||| (jshl (1 : Int64) a7.2.1)) ||| w1).toInt32))) ||| (if (d_X8_has ((((a6.2.1.toInt64 ||| (jshl (1 : Int64) a7.2.1)) ||| w1).toInt32).toInt64) (0 : Int32)) = 0 then (1 : Int32) else (0 : Int32))) &&& 1)))) else none) else none))) else none) else some (.inr (.inl (a7.1, a7.2.1, a7.2.2))))
set_option maxHeartbeats 2000000 in
theorem l_X8_constant_7 (M : Mem) (a3 : (Int32 × Int32 × Mem)) (a6 : (Int32 × Int32 × Mem)) : ∀ a7 : Int32 × Int32 × Mem, RG C_X8_constant ((fun (a7 : Int32 × Int32 × Mem) => (104, [some (.ref 19), some (.int (a3.1 + (1 : Int32))), some (.int a7.1), some (.int a6.2.1), some (.int a7.2.1), none, none], [], a7.2.2, 0)) a7) (g_X8_constant_7 a6 a7) (lpP (fun (a7 : Int32 × Int32 × Mem) => (104, [some (.ref 19), some (.int (a3.1 + (1 : Int32))), some (.int a7.1), some (.int a6.2.1), some (.int a7.2.1), none, none], [], a7.2.2, 0)) (fun (a7 : Int32 × Int32 × Mem) => (183, [some (.ref 19), some (.int (a3.1 + (1 : Int32))), some (.int a7.1), some (.int a6.2.1), some (.int a7.2.1), none, none], [], a7.2.2, 0)) id) := by
  intro a7
  unfold g_X8_constant_7
  show RG C_X8_constant (104, [some (.ref 19), some (.int (a3.1 + (1 : Int32))), some (.int a7.1), some (.int a6.2.1), some (.int a7.2.1), none, none], [], a7.2.2, 0) _ _
  refine RG.st 4 (congrFun (congrFun (congrFun b_X8_constant_21 a3) a6) a7) ?_
  refine RG.ite (fun h8 => RG.brNF (q := 113) h8 rfl ?_) (fun h8 => RG.brNT (q := 183) h8 rfl ?_)
  · refine RG.st 3 (congrFun (congrFun (congrFun b_X8_constant_22 a3) a6) a7) ?_
    refine RG.guard (fun h9 => RG.st 1 (stp_g h9 (congrFun (congrFun (congrFun b_X8_constant_23 a3) a6) a7)) ?_)
    refine RG.st 1 (congrFun (congrFun (congrFun b_X8_constant_24 a3) a6) a7) ?_
    refine RG.ite (fun h10 => RG.brT (q := 183) h10 rfl ?_) (fun h10 => RG.brF (q := 122) h10 rfl ?_)
    · exact RG.to rfl (Rto.refl _)
    · refine RG.st 12 (congrFun (congrFun (congrFun b_X8_constant_25 a3) a6) a7) ?_
      refine RG.bind (fun w1 h11 => RG.st 1 (run_callV (v := some (.long w1)) rfl rfl rfl rfl rfl (bindL h11)) ?_)
      show RG C_X8_constant (139, [some (.ref 19), some (.int (a3.1 + (1 : Int32))), some (.int a7.1), some (.int a6.2.1), some (.int a7.2.1), none, none], [.long w1, .long (a6.2.1.toInt64 ||| (jshl (1 : Int64) a7.2.1))], a7.2.2, 0) _ _
      refine RG.step (m_X8_constant_2 a3 a6 a7 w1) ?_
      refine RG.st 5 (congrFun (congrFun (congrFun (congrFun b_X8_constant_29 a3) a6) a7) w1) ?_
      refine RG.guard (fun h12 => RG.st 1 (stp_g h12 (congrFun (congrFun (congrFun (congrFun b_X8_constant_30 a3) a6) a7) w1)) ?_)
      refine RG.st 2 (congrFun (congrFun (congrFun (congrFun b_X8_constant_31 a3) a6) a7) w1) ?_
      refine RG.guard (fun h13 => RG.st 1 (stp_g h13 (congrFun (congrFun (congrFun (congrFun b_X8_constant_32 a3) a6) a7) w1)) ?_)
      refine RG.st 6 (congrFun (congrFun (congrFun (congrFun b_X8_constant_33 a3) a6) a7) w1) ?_
      exact RG.to rfl (Rto.fgt [5, 6] rfl)
  · exact RG.to rfl (Rto.refl _)
set_option maxRecDepth 100000 in
theorem b_X8_constant_34 : (fun (a3 : (Int32 × Int32 × Mem)) (a6 : (Int32 × Int32 × Mem)) (a8 : (Int32 × Int32 × Mem)) => run C_X8_constant 2 (183, [some (.ref 19), some (.int (a3.1 + (1 : Int32))), some (.int a8.1), some (.int a6.2.1), some (.int a8.2.1), none, none], [], a8.2.2, 0)) = (fun (a3 : (Int32 × Int32 × Mem)) (a6 : (Int32 × Int32 × Mem)) (a8 : (Int32 × Int32 × Mem)) => some (.inl (94, [some (.ref 19), some (.int (a3.1 + (1 : Int32))), some (.int a8.1), some (.int (a6.2.1 + (1 : Int32))), some (.int a8.2.1), none, none], [], a8.2.2, 0))) := by rfl
def g_X8_constant_6 : Int32 × Int32 × Mem → Option ((Int32 × Int32 × Mem) ⊕ ((Int32 × Int32 × Mem) ⊕ (Res × Mem))) := fun (a6 : Int32 × Int32 × Mem) => (if a6.2.1 < (1024 : Int32) then (onIt (iter (g_X8_constant_7 a6) 20000 (a6.1, (1 : Int32), a6.2.2)) (fun (a8 : Int32 × Int32 × Mem) => some (.inl (a8.1, (a6.2.1 + (1 : Int32)), a8.2.2))) (fun r => some (.inr (.inr r)))) else some (.inr (.inl (a6.1, a6.2.1, a6.2.2))))
set_option maxHeartbeats 2000000 in
theorem l_X8_constant_6 (M : Mem) (a3 : (Int32 × Int32 × Mem)) (a5 : (Int32 × Mem)) : ∀ a6 : Int32 × Int32 × Mem, RG C_X8_constant ((fun (a6 : Int32 × Int32 × Mem) => (94, [some (.ref 19), some (.int (a3.1 + (1 : Int32))), some (.int a6.1), some (.int a6.2.1), none, none, none], [], a6.2.2, 0)) a6) (g_X8_constant_6 a6) (lpP (fun (a6 : Int32 × Int32 × Mem) => (94, [some (.ref 19), some (.int (a3.1 + (1 : Int32))), some (.int a6.1), some (.int a6.2.1), none, none, none], [], a6.2.2, 0)) (fun (a6 : Int32 × Int32 × Mem) => (189, [some (.ref 19), some (.int (a3.1 + (1 : Int32))), some (.int a6.1), some (.int a6.2.1), none, none, none], [], a6.2.2, 0)) id) := by
  intro a6
  unfold g_X8_constant_6
  show RG C_X8_constant (94, [some (.ref 19), some (.int (a3.1 + (1 : Int32))), some (.int a6.1), some (.int a6.2.1), none, none, none], [], a6.2.2, 0) _ _
  refine RG.st 3 (congrFun (congrFun b_X8_constant_19 a3) a6) ?_
  refine RG.ite (fun h7 => RG.brNF (q := 101) h7 rfl ?_) (fun h7 => RG.brNT (q := 189) h7 rfl ?_)
  · refine RG.st 2 (congrFun (congrFun b_X8_constant_20 a3) a6) ?_
    refine RG.loop (hd := (fun (a7 : Int32 × Int32 × Mem) => (104, [some (.ref 19), some (.int (a3.1 + (1 : Int32))), some (.int a7.1), some (.int a6.2.1), some (.int a7.2.1), none, none], [], a7.2.2, 0))) (ex := (fun (a7 : Int32 × Int32 × Mem) => (183, [some (.ref 19), some (.int (a3.1 + (1 : Int32))), some (.int a7.1), some (.int a6.2.1), some (.int a7.2.1), none, none], [], a7.2.2, 0))) (rt := id) (l_X8_constant_7 M a3 a6) (fun a8 => ?_) (fun r v h => by cases h; rfl)
    show RG C_X8_constant (183, [some (.ref 19), some (.int (a3.1 + (1 : Int32))), some (.int a8.1), some (.int a6.2.1), some (.int a8.2.1), none, none], [], a8.2.2, 0) _ _
    refine RG.st 2 (congrFun (congrFun (congrFun b_X8_constant_34 a3) a6) a8) ?_
    exact RG.to rfl (Rto.fgt [4] rfl)
  · exact RG.to rfl (Rto.refl _)
set_option maxRecDepth 100000 in
theorem b_X8_constant_35 : (fun (a3 : (Int32 × Int32 × Mem)) (a9 : (Int32 × Int32 × Mem)) => run C_X8_constant 2 (189, [some (.ref 19), some (.int (a3.1 + (1 : Int32))), some (.int a9.1), some (.int a9.2.1), none, none, none], [], a9.2.2, 0)) = (fun (a3 : (Int32 × Int32 × Mem)) (a9 : (Int32 × Int32 × Mem)) => some (.inl (191, [some (.ref 19), some (.int (a3.1 + (1 : Int32))), some (.int a9.1), some (.int (0 : Int32)), none, none, none], [], a9.2.2, 0))) := by rfl
set_option maxRecDepth 100000 in
theorem b_X8_constant_36 : (fun (a3 : (Int32 × Int32 × Mem)) (a9 : (Int32 × Int32 × Mem)) (a10 : (Int32 × Mem)) => run C_X8_constant 3 (191, [some (.ref 19), some (.int (a3.1 + (1 : Int32))), some (.int a9.1), some (.int a10.1), none, none, none], [], a10.2, 0)) = (fun (a3 : (Int32 × Int32 × Mem)) (a9 : (Int32 × Int32 × Mem)) (a10 : (Int32 × Mem)) => some (.inl ((br (!decide (a10.1 < (1024 : Int32))) 195 3 (21)), [some (.ref 19), some (.int (a3.1 + (1 : Int32))), some (.int a9.1), some (.int a10.1), none, none, none], [], a10.2, 0))) := by rfl
set_option maxRecDepth 100000 in
theorem b_X8_constant_37 : (fun (a3 : (Int32 × Int32 × Mem)) (a9 : (Int32 × Int32 × Mem)) (a10 : (Int32 × Mem)) => run C_X8_constant 6 (198, [some (.ref 19), some (.int (a3.1 + (1 : Int32))), some (.int a9.1), some (.int a10.1), none, none, none], [], a10.2, 0)) = (fun (a3 : (Int32 × Int32 × Mem)) (a9 : (Int32 × Int32 × Mem)) (a10 : (Int32 × Mem)) => some (.inl (208, [some (.ref 19), some (.int (a3.1 + (1 : Int32))), some (.int a9.1), some (.int a10.1), none, none, none], [.int a10.1, .ref 28, .int a10.1, .ref 27], a10.2, 0))) := by rfl
set_option maxRecDepth 100000 in
theorem b_X8_constant_38 : (fun (a3 : (Int32 × Int32 × Mem)) (a9 : (Int32 × Int32 × Mem)) (a10 : (Int32 × Mem)) => stp C_X8_constant (208, [some (.ref 19), some (.int (a3.1 + (1 : Int32))), some (.int a9.1), some (.int a10.1), none, none, none], [.int a10.1, .ref 28, .int a10.1, .ref 27], a10.2, 0)) = (fun (a3 : (Int32 × Int32 × Mem)) (a9 : (Int32 × Int32 × Mem)) (a10 : (Int32 × Mem)) => (if inb a10.1 1024 = true then some (.inl (209, [some (.ref 19), some (.int (a3.1 + (1 : Int32))), some (.int a9.1), some (.int a10.1), none, none, none], [.int (a10.2.1 28 (ix a10.1)), .int a10.1, .ref 27], a10.2, 0)) else none)) := by rfl
set_option maxRecDepth 100000 in
theorem b_X8_constant_39 : (fun (a3 : (Int32 × Int32 × Mem)) (a9 : (Int32 × Int32 × Mem)) (a10 : (Int32 × Mem)) => stp C_X8_constant (209, [some (.ref 19), some (.int (a3.1 + (1 : Int32))), some (.int a9.1), some (.int a10.1), none, none, none], [.int (a10.2.1 28 (ix a10.1)), .int a10.1, .ref 27], a10.2, 0)) = (fun (a3 : (Int32 × Int32 × Mem)) (a9 : (Int32 × Int32 × Mem)) (a10 : (Int32 × Mem)) => (if inb a10.1 1024 = true then some (.inl (210, [some (.ref 19), some (.int (a3.1 + (1 : Int32))), some (.int a9.1), some (.int a10.1), none, none, none], [], (sI a10.2 27 (ix a10.1) ((a10.2.1 28 (ix a10.1)) &&& 1)), 0)) else none)) := by rfl
set_option maxRecDepth 100000 in
theorem b_X8_constant_40 : (fun (a3 : (Int32 × Int32 × Mem)) (a9 : (Int32 × Int32 × Mem)) (a10 : (Int32 × Mem)) => run C_X8_constant 2 (210, [some (.ref 19), some (.int (a3.1 + (1 : Int32))), some (.int a9.1), some (.int a10.1), none, none, none], [], (sI a10.2 27 (ix a10.1) ((a10.2.1 28 (ix a10.1)) &&& 1)), 0)) = (fun (a3 : (Int32 × Int32 × Mem)) (a9 : (Int32 × Int32 × Mem)) (a10 : (Int32 × Mem)) => some (.inl (191, [some (.ref 19), some (.int (a3.1 + (1 : Int32))), some (.int a9.1), some (.int (a10.1 + (1 : Int32))), none, none, none], [], (sI a10.2 27 (ix a10.1) ((a10.2.1 28 (ix a10.1)) &&& 1)), 0))) := by rfl
def g_X8_constant_10 : Int32 × Mem → Option ((Int32 × Mem) ⊕ ((Int32 × Mem) ⊕ (Res × Mem))) := fun (a10 : Int32 × Mem) => (if a10.1 < (1024 : Int32) then (if inb a10.1 1024 = true then (if inb a10.1 1024 = true then some (.inl ((a10.1 + (1 : Int32)), (sI a10.2 27 (ix a10.1) ((a10.2.1 28 (ix a10.1)) &&& 1)))) else none) else none) else some (.inr (.inl (a10.1, a10.2))))
set_option maxHeartbeats 2000000 in
theorem l_X8_constant_10 (M : Mem) (a3 : (Int32 × Int32 × Mem)) (a9 : (Int32 × Int32 × Mem)) : ∀ a10 : Int32 × Mem, RG C_X8_constant ((fun (a10 : Int32 × Mem) => (191, [some (.ref 19), some (.int (a3.1 + (1 : Int32))), some (.int a9.1), some (.int a10.1), none, none, none], [], a10.2, 0)) a10) (g_X8_constant_10 a10) (lpP (fun (a10 : Int32 × Mem) => (191, [some (.ref 19), some (.int (a3.1 + (1 : Int32))), some (.int a9.1), some (.int a10.1), none, none, none], [], a10.2, 0)) (fun (a10 : Int32 × Mem) => (216, [some (.ref 19), some (.int (a3.1 + (1 : Int32))), some (.int a9.1), some (.int a10.1), none, none, none], [], a10.2, 0)) id) := by
  intro a10
  unfold g_X8_constant_10
  show RG C_X8_constant (191, [some (.ref 19), some (.int (a3.1 + (1 : Int32))), some (.int a9.1), some (.int a10.1), none, none, none], [], a10.2, 0) _ _
  refine RG.st 3 (congrFun (congrFun (congrFun b_X8_constant_36 a3) a9) a10) ?_
  refine RG.ite (fun h14 => RG.brNF (q := 198) h14 rfl ?_) (fun h14 => RG.brNT (q := 216) h14 rfl ?_)
  · refine RG.st 6 (congrFun (congrFun (congrFun b_X8_constant_37 a3) a9) a10) ?_
    refine RG.guard (fun h15 => RG.st 1 (stp_g h15 (congrFun (congrFun (congrFun b_X8_constant_38 a3) a9) a10)) ?_)
    refine RG.guard (fun h16 => RG.st 1 (stp_g h16 (congrFun (congrFun (congrFun b_X8_constant_39 a3) a9) a10)) ?_)
    refine RG.st 2 (congrFun (congrFun (congrFun b_X8_constant_40 a3) a9) a10) ?_
    exact RG.to rfl (Rto.refl _)
  · exact RG.to rfl (Rto.refl _)
set_option maxRecDepth 100000 in
theorem b_X8_constant_41 : (fun (a3 : (Int32 × Int32 × Mem)) (a9 : (Int32 × Int32 × Mem)) (a11 : (Int32 × Mem)) => run C_X8_constant 1 (216, [some (.ref 19), some (.int (a3.1 + (1 : Int32))), some (.int a9.1), some (.int a11.1), none, none, none], [], a11.2, 0)) = (fun (a3 : (Int32 × Int32 × Mem)) (a9 : (Int32 × Int32 × Mem)) (a11 : (Int32 × Mem)) => some (.inl (61, [some (.ref 19), some (.int (a3.1 + (1 : Int32))), some (.int a9.1), some (.int a11.1), none, none, none], [], a11.2, 0))) := by rfl
def g_X8_constant_3 : Int32 × Int32 × Mem → Option ((Int32 × Int32 × Mem) ⊕ ((Int32 × Int32 × Mem) ⊕ (Res × Mem))) := fun (a3 : Int32 × Int32 × Mem) => (if a3.2.1 = 0 then some (.inr (.inl (a3.1, a3.2.1, a3.2.2))) else (onIt (iter (g_X8_constant_4) 20000 ((0 : Int32), a3.2.2)) (fun (a5 : Int32 × Mem) => (onIt (iter (g_X8_constant_6) 20000 ((0 : Int32), (0 : Int32), a5.2)) (fun (a9 : Int32 × Int32 × Mem) => (onIt (iter (g_X8_constant_10) 20000 ((0 : Int32), a9.2.2)) (fun (a11 : Int32 × Mem) => some (.inl ((a3.1 + (1 : Int32)), a9.1, a11.2))) (fun r => some (.inr (.inr r))))) (fun r => some (.inr (.inr r))))) (fun r => some (.inr (.inr r)))))
set_option maxHeartbeats 2000000 in
theorem l_X8_constant_3 (M : Mem) (a2 : (Int32 × Mem)) : ∀ a3 : Int32 × Int32 × Mem, RG C_X8_constant ((fun (a3 : Int32 × Int32 × Mem) => (61, [some (.ref 19), some (.int a3.1), some (.int a3.2.1), none, none, none, none], [], a3.2.2, 0)) a3) (g_X8_constant_3 a3) (lpP (fun (a3 : Int32 × Int32 × Mem) => (61, [some (.ref 19), some (.int a3.1), some (.int a3.2.1), none, none, none, none], [], a3.2.2, 0)) (fun (a3 : Int32 × Int32 × Mem) => (219, [some (.ref 19), some (.int a3.1), some (.int a3.2.1), none, none, none, none], [], a3.2.2, 0)) id) := by
  intro a3
  unfold g_X8_constant_3
  show RG C_X8_constant (61, [some (.ref 19), some (.int a3.1), some (.int a3.2.1), none, none, none, none], [], a3.2.2, 0) _ _
  refine RG.st 2 (congrFun b_X8_constant_12 a3) ?_
  refine RG.ite (fun h4 => RG.brT (q := 219) h4 rfl ?_) (fun h4 => RG.brF (q := 65) h4 rfl ?_)
  · exact RG.to rfl (Rto.refl _)
  · refine RG.st 5 (congrFun b_X8_constant_13 a3) ?_
    refine RG.loop (hd := (fun (a4 : Int32 × Mem) => (72, [some (.ref 19), some (.int (a3.1 + (1 : Int32))), some (.int (0 : Int32)), some (.int a4.1), none, none, none], [], a4.2, 0))) (ex := (fun (a4 : Int32 × Mem) => (92, [some (.ref 19), some (.int (a3.1 + (1 : Int32))), some (.int (0 : Int32)), some (.int a4.1), none, none, none], [], a4.2, 0))) (rt := id) (l_X8_constant_4 M a3) (fun a5 => ?_) (fun r v h => by cases h; rfl)
    show RG C_X8_constant (92, [some (.ref 19), some (.int (a3.1 + (1 : Int32))), some (.int (0 : Int32)), some (.int a5.1), none, none, none], [], a5.2, 0) _ _
    refine RG.st 2 (congrFun (congrFun b_X8_constant_18 a3) a5) ?_
    refine RG.loop (hd := (fun (a6 : Int32 × Int32 × Mem) => (94, [some (.ref 19), some (.int (a3.1 + (1 : Int32))), some (.int a6.1), some (.int a6.2.1), none, none, none], [], a6.2.2, 0))) (ex := (fun (a6 : Int32 × Int32 × Mem) => (189, [some (.ref 19), some (.int (a3.1 + (1 : Int32))), some (.int a6.1), some (.int a6.2.1), none, none, none], [], a6.2.2, 0))) (rt := id) (l_X8_constant_6 M a3 a5) (fun a9 => ?_) (fun r v h => by cases h; rfl)
    show RG C_X8_constant (189, [some (.ref 19), some (.int (a3.1 + (1 : Int32))), some (.int a9.1), some (.int a9.2.1), none, none, none], [], a9.2.2, 0) _ _
    refine RG.st 2 (congrFun (congrFun b_X8_constant_35 a3) a9) ?_
    refine RG.loop (hd := (fun (a10 : Int32 × Mem) => (191, [some (.ref 19), some (.int (a3.1 + (1 : Int32))), some (.int a9.1), some (.int a10.1), none, none, none], [], a10.2, 0))) (ex := (fun (a10 : Int32 × Mem) => (216, [some (.ref 19), some (.int (a3.1 + (1 : Int32))), some (.int a9.1), some (.int a10.1), none, none, none], [], a10.2, 0))) (rt := id) (l_X8_constant_10 M a3 a9) (fun a11 => ?_) (fun r v h => by cases h; rfl)
    show RG C_X8_constant (216, [some (.ref 19), some (.int (a3.1 + (1 : Int32))), some (.int a9.1), some (.int a11.1), none, none, none], [], a11.2, 0) _ _
    refine RG.st 1 (congrFun (congrFun (congrFun b_X8_constant_41 a3) a9) a11) ?_
    exact RG.to rfl (Rto.fgt [3] rfl)
set_option maxRecDepth 100000 in
theorem b_X8_constant_42 : (fun (a12 : (Int32 × Int32 × Mem)) => run C_X8_constant 2 (219, [some (.ref 19), some (.int a12.1), some (.int a12.2.1), none, none, none, none], [], a12.2.2, 0)) = (fun (a12 : (Int32 × Int32 × Mem)) => some (.inr (.inl (some (.int a12.1)), a12.2.2, 0))) := by rfl
set_option maxRecDepth 100000 in
theorem b_X8_constant_43 : (fun (M : Mem) => run C_X8_constant 2 (25, [some (.ref 19), none, none, none, none, none, none], [], (sI M 19 15 (if (d_X8_size M) ≤ (10 : Int32) then (0 : Int32) else (1 : Int32))), 0)) = (fun (M : Mem) => some (.inr (.inl (some (.int (0 : Int32))), (sI M 19 15 (if (d_X8_size M) ≤ (10 : Int32) then (0 : Int32) else (1 : Int32))), 0))) := by rfl
def d_X8_constant (M : Mem) : Option (Res × Mem) := (if (if (d_X8_size M) ≤ (10 : Int32) then (0 : Int32) else (1 : Int32)) ≤ 0 then (onIt (iter (g_X8_constant_1) 20000 ((0 : Int32), (sI M 19 15 (if (d_X8_size M) ≤ (10 : Int32) then (0 : Int32) else (1 : Int32))))) (fun (a2 : Int32 × Mem) => (onIt (iter (g_X8_constant_3) 20000 ((0 : Int32), (1 : Int32), a2.2)) (fun (a12 : Int32 × Int32 × Mem) => some (.inl (some (.int a12.1)), a12.2.2)) (fun r => some r))) (fun r => some r)) else some (.inl (some (.int (0 : Int32))), (sI M 19 15 (if (d_X8_size M) ≤ (10 : Int32) then (0 : Int32) else (1 : Int32)))))
set_option maxHeartbeats 2000000 in
theorem r_X8_constant (M : Mem) : RG C_X8_constant (0, [some (.ref 19), none, none, none, none, none, none], [], M, 0) (d_X8_constant M) (fun r => .inr r) := by
  unfold d_X8_constant
  refine RG.step (m_X8_constant_0 M) ?_
  refine RG.st 4 (congrFun b_X8_constant_3 M) ?_
  refine RG.ite (fun h1 => RG.brT (q := 27) h1 rfl ?_) (fun h1 => RG.brF (q := 25) h1 rfl ?_)
  · refine RG.st 2 (congrFun b_X8_constant_4 M) ?_
    refine RG.loop (hd := (fun (a1 : Int32 × Mem) => (29, [some (.ref 19), some (.int a1.1), none, none, none, none, none], [], a1.2, 0))) (ex := (fun (a1 : Int32 × Mem) => (57, [some (.ref 19), some (.int a1.1), none, none, none, none, none], [], a1.2, 0))) (rt := id) (l_X8_constant_1 M) (fun a2 => ?_) (fun r v h => by cases h; rfl)
    show RG C_X8_constant (57, [some (.ref 19), some (.int a2.1), none, none, none, none, none], [], a2.2, 0) _ _
    refine RG.st 4 (congrFun b_X8_constant_11 a2) ?_
    refine RG.loop (hd := (fun (a3 : Int32 × Int32 × Mem) => (61, [some (.ref 19), some (.int a3.1), some (.int a3.2.1), none, none, none, none], [], a3.2.2, 0))) (ex := (fun (a3 : Int32 × Int32 × Mem) => (219, [some (.ref 19), some (.int a3.1), some (.int a3.2.1), none, none, none, none], [], a3.2.2, 0))) (rt := id) (l_X8_constant_3 M a2) (fun a12 => ?_) (fun r v h => by cases h; rfl)
    show RG C_X8_constant (219, [some (.ref 19), some (.int a12.1), some (.int a12.2.1), none, none, none, none], [], a12.2.2, 0) _ _
    exact RG.fin rfl (Rend.run 2 (congrFun b_X8_constant_42 a12))
  · exact RG.fin rfl (Rend.run 2 (congrFun b_X8_constant_43 M))
def fn_X8_constant : Fn := fun av M => match av with
  | [.ref r0] => bif Nat.beq r0 19 then (d_X8_constant M) else (none)
  | _ => none
theorem cfg_X8_constant : CfgOK RX8 cX8_constant (C_X8_constant) 5 := ⟨tk_X8_constant, csF_nd, flk_X8, (List.forall_mem_cons.mpr ⟨Or.inr ⟨yX8_size, cX8_size, 1, (some .int), none, 1, ok_X8_size, by decide, by decide, w_code_SumsetryModel_size___I, w_initialized_SumsetryModel, ⟨by decide, by decide⟩, Or.inr (Or.inr ⟨rfl, rfl, show (parseMethodDescriptor yX8_size.desc).map (fun d => d.parameters.length + 1) = some 1 from by decide +kernel, w_methodLink_SumsetryModel_49, w_instanceMethod_SumsetryModel_size___I, w_selects_SumsetryModel_size___I, ⟨_, rfl, rfl⟩⟩)⟩,
    List.forall_mem_cons.mpr ⟨Or.inr ⟨yX8_has, cX8_has, 3, (some .boolean), none, 1, ok_X8_has, by decide, by decide, w_code_SumsetryModel_has__JI_Z, w_initialized_SumsetryModel, ⟨by decide, by decide⟩, Or.inl ⟨rfl, show (parseMethodDescriptor yX8_has.desc).map (fun d => d.parameters.length) = some 2 from by decide +kernel, w_methodLink_SumsetryModel_60, w_static_SumsetryModel_has__JI_Z⟩⟩,
    List.forall_mem_cons.mpr ⟨Or.inr ⟨yX8_sumOf, cX8_sumOf, 5, (some .long), none, 4, ok_X8_sumOf, by decide, by decide, w_code_SumsetryModel_sumOf__JJ_J, w_initialized_SumsetryModel, ⟨by decide, by decide⟩, Or.inr (Or.inr ⟨rfl, rfl, show (parseMethodDescriptor yX8_sumOf.desc).map (fun d => d.parameters.length + 1) = some 3 from by decide +kernel, w_methodLink_SumsetryModel_99, w_instanceMethod_SumsetryModel_sumOf__JJ_J, w_selects_SumsetryModel_sumOf__JJ_J, ⟨_, rfl, rfl⟩⟩)⟩, fun _ h => absurd h List.not_mem_nil⟩⟩⟩), ink_X8, lgk_X8, fun e h => absurd h List.not_mem_nil, (fun h hh => absurd hh List.not_mem_nil)⟩
theorem ok_X8_constant : OkM csF yX8_constant (Cond.code yX8_constant cX8_constant 7 (some .int)) 5 0 fn_X8_constant :=
  OkM_of (own := RX8) (C := C_X8_constant) (by decide +kernel) rfl (cfg_X8_constant) rfl rfl rfl rfl (by
    intro av M o M' h
    unfold fn_X8_constant at h
    split at h
    · rename_i r0
      rcases bif_cs h with ⟨hb, h⟩ | ⟨-, h⟩
      · skip
        have hr0 := hb
        obtain rfl := Nat.eq_of_beq_eq_true hr0
        exact ⟨rfl, Nat.le_of_ble_eq_true rfl, (r_X8_constant M) (o, M') h⟩
      · cases h
    · cases h)
