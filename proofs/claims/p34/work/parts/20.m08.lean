/-! methods: X6_valueAt, X6_waysTo, X7_isFrom, X7_group, X7_needElement, X7_add, X7_keepSet, X7_set, X7_needSet, X7_bitsOf, X7_combined -/
def t_X6_valueAt : List (Nat × Instr × Nat) := [(0, .iconst 0, 1), (1, .istore 4, 2), (3, .iconst 0, 1), (4, .istore 5, 2), (6, .iload 5, 2), (8, .aload_n 0, 1), (9, .getfield 23, 3), (12, .if_icmp .ge 31, 3), (15, .lload_n 2, 1), (16, .iload 5, 2), (18, .invokestatic 30, 3), (21, .ifCond .eq 16, 3), (24, .iload 4, 2), (26, .aload_n 0, 1), (27, .iload_n 1, 1), (28, .iload 5, 2), (30, .imul, 1), (31, .invokevirtual 34, 3), (34, .iadd, 1), (35, .istore 4, 2), (37, .iinc 5 1, 3), (40, .goto (-34), 3), (43, .iload 4, 2), (45, .aload_n 0, 1), (46, .getfield 19, 3), (49, .invokestatic 15, 3), (52, .ireturn, 1)]
theorem tk_X6_valueAt : ∀ x ∈ t_X6_valueAt, decode cX6_valueAt x.1 = .ok x.2 := by decide +kernel
def C_X6_valueAt : Cfg := (t_X6_valueAt, csF, fl_X6, [(15, 1, 5, 2, 0, fn_X7_rest), (30, 1, 5, 2, 0, fn_X7_has), (34, 2, 4, 2, 0, fn_X6_powerOf)], in_X6, lg_X6, [], [], none, (some .int), 0)
set_option maxRecDepth 100000 in
theorem b_X6_valueAt_0 : (fun (v1 : Int32) (v2 : Int64) (M : Mem) => run C_X6_valueAt 4 (0, [some (.ref 17), some (.int v1), some (.long v2), none, none, none], [], M, 0)) = (fun (v1 : Int32) (v2 : Int64) (M : Mem) => some (.inl (6, [some (.ref 17), some (.int v1), some (.long v2), none, some (.int (0 : Int32)), some (.int (0 : Int32))], [], M, 0))) := by rfl
set_option maxRecDepth 100000 in
theorem b_X6_valueAt_1 : (fun (v1 : Int32) (v2 : Int64) (M : Mem) (a1 : (Int32 × Int32)) => run C_X6_valueAt 4 (6, [some (.ref 17), some (.int v1), some (.long v2), none, some (.int a1.1), some (.int a1.2)], [], M, 0)) = (fun (v1 : Int32) (v2 : Int64) (M : Mem) (a1 : (Int32 × Int32)) => some (.inl ((br (!decide (a1.2 < (M.1 17 1))) 12 3 (31)), [some (.ref 17), some (.int v1), some (.long v2), none, some (.int a1.1), some (.int a1.2)], [], M, 0))) := by rfl
set_option maxRecDepth 100000 in
theorem b_X6_valueAt_2 : (fun (v1 : Int32) (v2 : Int64) (M : Mem) (a1 : (Int32 × Int32)) => run C_X6_valueAt 4 (15, [some (.ref 17), some (.int v1), some (.long v2), none, some (.int a1.1), some (.int a1.2)], [], M, 0)) = (fun (v1 : Int32) (v2 : Int64) (M : Mem) (a1 : (Int32 × Int32)) => some (.inl ((br (decide ((d_X7_has v2 a1.2) = 0)) 21 3 (16)), [some (.ref 17), some (.int v1), some (.long v2), none, some (.int a1.1), some (.int a1.2)], [], M, 0))) := by rfl
set_option maxRecDepth 100000 in
theorem b_X6_valueAt_3 : (fun (v1 : Int32) (v2 : Int64) (M : Mem) (a1 : (Int32 × Int32)) => run C_X6_valueAt 8 (24, [some (.ref 17), some (.int v1), some (.long v2), none, some (.int a1.1), some (.int a1.2)], [], M, 0)) = (fun (v1 : Int32) (v2 : Int64) (M : Mem) (a1 : (Int32 × Int32)) => some (.inl (37, [some (.ref 17), some (.int v1), some (.long v2), none, some (.int (a1.1 + (d_X6_powerOf (v1 * a1.2) M))), some (.int a1.2)], [], M, 0))) := by rfl
theorem m_X6_valueAt_0 (v1 : Int32) (v2 : Int64) (M : Mem) (a1 : (Int32 × Int32)) : Rto C_X6_valueAt (15, [some (.ref 17), some (.int v1), some (.long v2), none, some (.int a1.1), some (.int a1.2)], [], M, 0) (37, [some (.ref 17), some (.int v1), some (.long v2), none, some (.int (if (d_X7_has v2 a1.2) = 0 then a1.1 else (a1.1 + (d_X6_powerOf (v1 * a1.2) M)))), some (.int a1.2)], [], M, 0) := by
  refine Rto.trans (Rto.run 4 (congrFun (congrFun (congrFun (congrFun b_X6_valueAt_2 v1) v2) M) a1)) ?_
  by_cases h : (d_X7_has v2 a1.2) = 0
  · refine Rto.trans (Rto.brT (q := 37) h rfl) ?_
    exact Rto.eq (by first | (simp only [if_pos h]; done) | rfl | exact absurd rfl h | (simp; done))
  · refine Rto.trans (Rto.brF (q := 24) h rfl) ?_
    refine Rto.trans (Rto.run 8 (congrFun (congrFun (congrFun (congrFun b_X6_valueAt_3 v1) v2) M) a1)) ?_
    exact Rto.eq (by first | (simp only [if_neg h]; done) | rfl | exact absurd rfl h | (simp; done))
set_option maxRecDepth 100000 in
theorem b_X6_valueAt_4 : (fun (v1 : Int32) (v2 : Int64) (M : Mem) (a1 : (Int32 × Int32)) => run C_X6_valueAt 2 (37, [some (.ref 17), some (.int v1), some (.long v2), none, some (.int (if (d_X7_has v2 a1.2) = 0 then a1.1 else (a1.1 + (d_X6_powerOf (v1 * a1.2) M)))), some (.int a1.2)], [], M, 0)) = (fun (v1 : Int32) (v2 : Int64) (M : Mem) (a1 : (Int32 × Int32)) => some (.inl (6, [some (.ref 17), some (.int v1), some (.long v2), none, some (.int (if (d_X7_has v2 a1.2) = 0 then a1.1 else (a1.1 + (d_X6_powerOf (v1 * a1.2) M)))), some (.int (a1.2 + (1 : Int32)))], [], M, 0))) := by rfl
def g_X6_valueAt_1 (v1 : Int32) (v2 : Int64) (M : Mem) : Int32 × Int32 → Option ((Int32 × Int32) ⊕ ((Int32 × Int32) ⊕ Int32)) := fun (a1 : Int32 × Int32) => (if a1.2 < (M.1 17 1) then some (.inl ((if (d_X7_has v2 a1.2) = 0 then a1.1 else (a1.1 + (d_X6_powerOf (v1 * a1.2) M))), (a1.2 + (1 : Int32)))) else some (.inr (.inl (a1.1, a1.2))))
set_option maxHeartbeats 2000000 in
theorem l_X6_valueAt_1 (v1 : Int32) (v2 : Int64) (M : Mem) : ∀ a1 : Int32 × Int32, RG C_X6_valueAt ((fun (a1 : Int32 × Int32) => (6, [some (.ref 17), some (.int v1), some (.long v2), none, some (.int a1.1), some (.int a1.2)], [], M, 0)) a1) (g_X6_valueAt_1 v1 v2 M a1) (lpP (fun (a1 : Int32 × Int32) => (6, [some (.ref 17), some (.int v1), some (.long v2), none, some (.int a1.1), some (.int a1.2)], [], M, 0)) (fun (a1 : Int32 × Int32) => (43, [some (.ref 17), some (.int v1), some (.long v2), none, some (.int a1.1), some (.int a1.2)], [], M, 0)) (fun (v : Int32) => (.inl (some (.int v)), M))) := by
  intro a1
  unfold g_X6_valueAt_1
  show RG C_X6_valueAt (6, [some (.ref 17), some (.int v1), some (.long v2), none, some (.int a1.1), some (.int a1.2)], [], M, 0) _ _
  refine RG.st 4 (congrFun (congrFun (congrFun (congrFun b_X6_valueAt_1 v1) v2) M) a1) ?_
  refine RG.ite (fun h1 => RG.brNF (q := 15) h1 rfl ?_) (fun h1 => RG.brNT (q := 43) h1 rfl ?_)
  · refine RG.step (m_X6_valueAt_0 v1 v2 M a1) ?_
    refine RG.st 2 (congrFun (congrFun (congrFun (congrFun b_X6_valueAt_4 v1) v2) M) a1) ?_
    exact RG.to rfl (Rto.refl _)
  · exact RG.to rfl (Rto.refl _)
set_option maxRecDepth 100000 in
theorem b_X6_valueAt_5 : (fun (v1 : Int32) (v2 : Int64) (M : Mem) (a2 : (Int32 × Int32)) => run C_X6_valueAt 5 (43, [some (.ref 17), some (.int v1), some (.long v2), none, some (.int a2.1), some (.int a2.2)], [], M, 0)) = (fun (v1 : Int32) (v2 : Int64) (M : Mem) (a2 : (Int32 × Int32)) => some (.inr (.inl (some (.int (d_X7_rest a2.1 (M.1 17 0)))), M, 0))) := by rfl
def d_X6_valueAt (v1 : Int32) (v2 : Int64) (M : Mem) : Option Int32 := (onIt (iter (g_X6_valueAt_1 v1 v2 M) 20000 ((0 : Int32), (0 : Int32))) (fun (a2 : Int32 × Int32) => some (d_X7_rest a2.1 (M.1 17 0))) (fun r => some r))
set_option maxHeartbeats 2000000 in
theorem r_X6_valueAt (v1 : Int32) (v2 : Int64) (M : Mem) : RG C_X6_valueAt (0, [some (.ref 17), some (.int v1), some (.long v2), none, none, none], [], M, 0) (d_X6_valueAt v1 v2 M) (fun v => .inr (.inl (some (.int v)), M)) := by
  unfold d_X6_valueAt
  refine RG.st 4 (congrFun (congrFun (congrFun b_X6_valueAt_0 v1) v2) M) ?_
  refine RG.loop (hd := (fun (a1 : Int32 × Int32) => (6, [some (.ref 17), some (.int v1), some (.long v2), none, some (.int a1.1), some (.int a1.2)], [], M, 0))) (ex := (fun (a1 : Int32 × Int32) => (43, [some (.ref 17), some (.int v1), some (.long v2), none, some (.int a1.1), some (.int a1.2)], [], M, 0))) (rt := (fun (v : Int32) => (.inl (some (.int v)), M))) (l_X6_valueAt_1 v1 v2 M) (fun a2 => ?_) (fun r v h => by cases h; rfl)
  show RG C_X6_valueAt (43, [some (.ref 17), some (.int v1), some (.long v2), none, some (.int a2.1), some (.int a2.2)], [], M, 0) _ _
  exact RG.fin rfl (Rend.run 5 (congrFun (congrFun (congrFun (congrFun b_X6_valueAt_5 v1) v2) M) a2))
def fn_X6_valueAt : Fn := fun av M => match av with
  | [.ref r0, .int v1, .long v2] => bif Nat.beq r0 17 then (d_X6_valueAt v1 v2 M).bind fun v => some (.inl (some (.int v)), M) else (none)
  | _ => none
theorem cfg_X6_valueAt : CfgOK RX6 cX6_valueAt (C_X6_valueAt) 3 := ⟨tk_X6_valueAt, csF_nd, flk_X6, (List.forall_mem_cons.mpr ⟨Or.inr ⟨yX7_rest, cX7_rest, 3, (some .int), none, 1, ok_X7_rest, by decide, by decide, w_code_Sumsetry_rest__II_I, w_initialized_Sumsetry, ⟨by decide, by decide⟩, Or.inr (Or.inl ⟨rfl, rfl, show (parseMethodDescriptor yX7_rest.desc).map (fun d => d.parameters.length) = some 2 from by decide +kernel, ⟨"Sumsetry", by decide +kernel⟩, w_static_Sumsetry_rest__II_I⟩)⟩,
    List.forall_mem_cons.mpr ⟨Or.inr ⟨yX7_has, cX7_has, 3, (some .boolean), none, 1, ok_X7_has, by decide, by decide, w_code_Sumsetry_has__JI_Z, w_initialized_Sumsetry, ⟨by decide, by decide⟩, Or.inr (Or.inl ⟨rfl, rfl, show (parseMethodDescriptor yX7_has.desc).map (fun d => d.parameters.length) = some 2 from by decide +kernel, ⟨"Sumsetry", by decide +kernel⟩, w_static_Sumsetry_has__JI_Z⟩)⟩,
    List.forall_mem_cons.mpr ⟨Or.inr ⟨yX6_powerOf, cX6_powerOf, 2, (some .int), none, 2, ok_X6_powerOf, by decide, by decide, w_code_Sumsetry_Transforms_powerOf__I_I, w_initialized_Sumsetry_Transforms, ⟨by decide, by decide⟩, Or.inr (Or.inr ⟨rfl, rfl, show (parseMethodDescriptor yX6_powerOf.desc).map (fun d => d.parameters.length + 1) = some 2 from by decide +kernel, w_methodLink_Sumsetry_Transforms_34, w_instanceMethod_Sumsetry_Transforms_powerOf__I_I, w_selects_Sumsetry_Transforms_powerOf__I_I, ⟨_, rfl, rfl⟩⟩)⟩, fun _ h => absurd h List.not_mem_nil⟩⟩⟩), ink_X6, lgk_X6, fun e h => absurd h List.not_mem_nil, (fun h hh => absurd hh List.not_mem_nil)⟩
theorem ok_X6_valueAt : OkM csF yX6_valueAt (Cond.code yX6_valueAt cX6_valueAt 6 (some .int)) 3 0 fn_X6_valueAt :=
  OkM_of (own := RX6) (C := C_X6_valueAt) (by decide +kernel) rfl (cfg_X6_valueAt) rfl rfl rfl rfl (by
    intro av M o M' h
    unfold fn_X6_valueAt at h
    split at h
    · rename_i r0 v1 v2
      rcases bif_cs h with ⟨hb, h⟩ | ⟨-, h⟩
      · skip
        have hr0 := hb
        obtain rfl := Nat.eq_of_beq_eq_true hr0
        obtain ⟨w, hw, h⟩ := bind_cs h
        cases h
        exact ⟨rfl, Nat.le_of_ble_eq_true rfl, (r_X6_valueAt v1 v2 M) w hw⟩
      · cases h
    · cases h)
def t_X6_waysTo : List (Nat × Instr × Nat) := [(0, .iconst 0, 1), (1, .istore 6, 2), (3, .iconst 0, 1), (4, .istore 7, 2), (6, .iload 7, 2), (8, .aload_n 0, 1), (9, .getfield 23, 3), (12, .if_icmp .ge 67, 3), (15, .aload_n 0, 1), (16, .iload 7, 2), (18, .lload_n 2, 1), (19, .invokevirtual 38, 3), (22, .aload_n 0, 1), (23, .iload 7, 2), (25, .lload 4, 2), (27, .invokevirtual 38, 3), (30, .imul, 1), (31, .aload_n 0, 1), (32, .getfield 19, 3), (35, .invokestatic 15, 3), (38, .istore 8, 2), (40, .iload 6, 2), (42, .iload 8, 2), (44, .aload_n 0, 1), (45, .aload_n 0, 1), (46, .getfield 23, 3), (49, .aload_n 0, 1), (50, .getfield 23, 3), (53, .imul, 1), (54, .iload 7, 2), (56, .iload_n 1, 1), (57, .imul, 1), (58, .isub, 1), (59, .invokevirtual 34, 3), (62, .imul, 1), (63, .aload_n 0, 1), (64, .getfield 19, 3), (67, .invokestatic 15, 3), (70, .iadd, 1), (71, .istore 6, 2), (73, .iinc 7 1, 3), (76, .goto (-70), 3), (79, .aload_n 0, 1), (80, .getfield 19, 3), (83, .aload_n 0, 1), (84, .getfield 19, 3), (87, .iconst 1, 1), (88, .isub, 1), (89, .aload_n 0, 1), (90, .getfield 23, 3), (93, .invokestatic 42, 3), (96, .isub, 1), (97, .istore 7, 2), (99, .iload 6, 2), (101, .aload_n 0, 1), (102, .getfield 19, 3), (105, .invokestatic 15, 3), (108, .iload 7, 2), (110, .imul, 1), (111, .aload_n 0, 1), (112, .getfield 19, 3), (115, .invokestatic 15, 3), (118, .ireturn, 1)]
theorem tk_X6_waysTo : ∀ x ∈ t_X6_waysTo, decode cX6_waysTo x.1 = .ok x.2 := by decide +kernel
def C_X6_waysTo : Cfg := (t_X6_waysTo, csF, fl_X6, [(15, 1, 5, 2, 0, fn_X7_rest), (34, 2, 4, 2, 0, fn_X6_powerOf), (38, 2, 4, 3, 0, fn_X6_valueAt), (42, 1, 5, 2, 0, fn_X7_share)], in_X6, lg_X6, [], [], none, (some .int), 0)
set_option maxRecDepth 100000 in
theorem b_X6_waysTo_0 : (fun (v1 : Int32) (v2 : Int64) (v4 : Int64) (M : Mem) => run C_X6_waysTo 4 (0, [some (.ref 17), some (.int v1), some (.long v2), none, some (.long v4), none, none, none, none], [], M, 0)) = (fun (v1 : Int32) (v2 : Int64) (v4 : Int64) (M : Mem) => some (.inl (6, [some (.ref 17), some (.int v1), some (.long v2), none, some (.long v4), none, some (.int (0 : Int32)), some (.int (0 : Int32)), none], [], M, 0))) := by rfl
set_option maxRecDepth 100000 in
theorem b_X6_waysTo_1 : (fun (v1 : Int32) (v2 : Int64) (v4 : Int64) (M : Mem) (a1 : (Int32 × Int32)) => run C_X6_waysTo 4 (6, [some (.ref 17), some (.int v1), some (.long v2), none, some (.long v4), none, some (.int a1.1), some (.int a1.2), none], [], M, 0)) = (fun (v1 : Int32) (v2 : Int64) (v4 : Int64) (M : Mem) (a1 : (Int32 × Int32)) => some (.inl ((br (!decide (a1.2 < (M.1 17 1))) 12 3 (67)), [some (.ref 17), some (.int v1), some (.long v2), none, some (.long v4), none, some (.int a1.1), some (.int a1.2), none], [], M, 0))) := by rfl
set_option maxRecDepth 100000 in
theorem b_X6_waysTo_2 : (fun (v1 : Int32) (v2 : Int64) (v4 : Int64) (M : Mem) (a1 : (Int32 × Int32)) => run C_X6_waysTo 3 (15, [some (.ref 17), some (.int v1), some (.long v2), none, some (.long v4), none, some (.int a1.1), some (.int a1.2), none], [], M, 0)) = (fun (v1 : Int32) (v2 : Int64) (v4 : Int64) (M : Mem) (a1 : (Int32 × Int32)) => some (.inl (19, [some (.ref 17), some (.int v1), some (.long v2), none, some (.long v4), none, some (.int a1.1), some (.int a1.2), none], [.long v2, .int a1.2, .ref 17], M, 0))) := by rfl
set_option maxRecDepth 100000 in
theorem b_X6_waysTo_3 : (fun (v1 : Int32) (v2 : Int64) (v4 : Int64) (M : Mem) (a1 : (Int32 × Int32)) (w1 : Int32) => run C_X6_waysTo 3 (22, [some (.ref 17), some (.int v1), some (.long v2), none, some (.long v4), none, some (.int a1.1), some (.int a1.2), none], [.int w1], M, 0)) = (fun (v1 : Int32) (v2 : Int64) (v4 : Int64) (M : Mem) (a1 : (Int32 × Int32)) (w1 : Int32) => some (.inl (27, [some (.ref 17), some (.int v1), some (.long v2), none, some (.long v4), none, some (.int a1.1), some (.int a1.2), none], [.long v4, .int a1.2, .ref 17, .int w1], M, 0))) := by rfl
set_option maxRecDepth 100000 in
theorem b_X6_waysTo_4 : (fun (v1 : Int32) (v2 : Int64) (v4 : Int64) (M : Mem) (a1 : (Int32 × Int32)) (w1 : Int32) (w2 : Int32) => run C_X6_waysTo 26 (30, [some (.ref 17), some (.int v1), some (.long v2), none, some (.long v4), none, some (.int a1.1), some (.int a1.2), none], [.int w2, .int w1], M, 0)) = (fun (v1 : Int32) (v2 : Int64) (v4 : Int64) (M : Mem) (a1 : (Int32 × Int32)) (w1 : Int32) (w2 : Int32) => some (.inl (6, [some (.ref 17), some (.int v1), some (.long v2), none, some (.long v4), none, some (.int (a1.1 + (d_X7_rest ((d_X7_rest (w1 * w2) (M.1 17 0)) * (d_X6_powerOf (((M.1 17 1) * (M.1 17 1)) - (a1.2 * v1)) M)) (M.1 17 0)))), some (.int (a1.2 + (1 : Int32))), some (.int (d_X7_rest (w1 * w2) (M.1 17 0)))], [], M, 0))) := by rfl
def g_X6_waysTo_1 (v1 : Int32) (v2 : Int64) (v4 : Int64) (M : Mem) : Int32 × Int32 → Option ((Int32 × Int32) ⊕ ((Int32 × Int32) ⊕ Int32)) := fun (a1 : Int32 × Int32) => (if a1.2 < (M.1 17 1) then ((d_X6_valueAt a1.2 v2 M).bind fun w1 => ((d_X6_valueAt a1.2 v4 M).bind fun w2 => some (.inl ((a1.1 + (d_X7_rest ((d_X7_rest (w1 * w2) (M.1 17 0)) * (d_X6_powerOf (((M.1 17 1) * (M.1 17 1)) - (a1.2 * v1)) M)) (M.1 17 0))), (a1.2 + (1 : Int32)))))) else some (.inr (.inl (a1.1, a1.2))))
set_option maxHeartbeats 2000000 in
theorem l_X6_waysTo_1 (v1 : Int32) (v2 : Int64) (v4 : Int64) (M : Mem) : ∀ a1 : Int32 × Int32, RG C_X6_waysTo ((fun (a1 : Int32 × Int32) => (6, [some (.ref 17), some (.int v1), some (.long v2), none, some (.long v4), none, some (.int a1.1), some (.int a1.2), none], [], M, 0)) a1) (g_X6_waysTo_1 v1 v2 v4 M a1) (lpP (fun (a1 : Int32 × Int32) => (6, [some (.ref 17), some (.int v1), some (.long v2), none, some (.long v4), none, some (.int a1.1), some (.int a1.2), none], [], M, 0)) (fun (a1 : Int32 × Int32) => (79, [some (.ref 17), some (.int v1), some (.long v2), none, some (.long v4), none, some (.int a1.1), some (.int a1.2), none], [], M, 0)) (fun (v : Int32) => (.inl (some (.int v)), M))) := by
  intro a1
  unfold g_X6_waysTo_1
  show RG C_X6_waysTo (6, [some (.ref 17), some (.int v1), some (.long v2), none, some (.long v4), none, some (.int a1.1), some (.int a1.2), none], [], M, 0) _ _
  refine RG.st 4 (congrFun (congrFun (congrFun (congrFun (congrFun b_X6_waysTo_1 v1) v2) v4) M) a1) ?_
  refine RG.ite (fun h1 => RG.brNF (q := 15) h1 rfl ?_) (fun h1 => RG.brNT (q := 79) h1 rfl ?_)
  · refine RG.st 3 (congrFun (congrFun (congrFun (congrFun (congrFun b_X6_waysTo_2 v1) v2) v4) M) a1) ?_
    refine RG.bind (fun w1 h2 => RG.st 1 (run_callV (v := some (.int w1)) rfl rfl rfl rfl rfl (bindI h2)) ?_)
    show RG C_X6_waysTo (22, [some (.ref 17), some (.int v1), some (.long v2), none, some (.long v4), none, some (.int a1.1), some (.int a1.2), none], [.int w1], M, 0) _ _
    refine RG.st 3 (congrFun (congrFun (congrFun (congrFun (congrFun (congrFun b_X6_waysTo_3 v1) v2) v4) M) a1) w1) ?_
    refine RG.bind (fun w2 h3 => RG.st 1 (run_callV (v := some (.int w2)) rfl rfl rfl rfl rfl (bindI h3)) ?_)
    show RG C_X6_waysTo (30, [some (.ref 17), some (.int v1), some (.long v2), none, some (.long v4), none, some (.int a1.1), some (.int a1.2), none], [.int w2, .int w1], M, 0) _ _
    refine RG.st 26 (congrFun (congrFun (congrFun (congrFun (congrFun (congrFun (congrFun b_X6_waysTo_4 v1) v2) v4) M) a1) w1) w2) ?_
    exact RG.to rfl (Rto.fgt [8] rfl)
  · exact RG.to rfl (Rto.refl _)
set_option maxRecDepth 100000 in
theorem b_X6_waysTo_5 : (fun (v1 : Int32) (v2 : Int64) (v4 : Int64) (M : Mem) (a2 : (Int32 × Int32)) => run C_X6_waysTo 21 (79, [some (.ref 17), some (.int v1), some (.long v2), none, some (.long v4), none, some (.int a2.1), some (.int a2.2), none], [], M, 0)) = (fun (v1 : Int32) (v2 : Int64) (v4 : Int64) (M : Mem) (a2 : (Int32 × Int32)) => some (.inr (.inl (some (.int (d_X7_rest ((d_X7_rest a2.1 (M.1 17 0)) * ((M.1 17 0) - (d_X7_share ((M.1 17 0) - (1 : Int32)) (M.1 17 1)))) (M.1 17 0)))), M, 0))) := by rfl
def d_X6_waysTo (v1 : Int32) (v2 : Int64) (v4 : Int64) (M : Mem) : Option Int32 := (onIt (iter (g_X6_waysTo_1 v1 v2 v4 M) 20000 ((0 : Int32), (0 : Int32))) (fun (a2 : Int32 × Int32) => some (d_X7_rest ((d_X7_rest a2.1 (M.1 17 0)) * ((M.1 17 0) - (d_X7_share ((M.1 17 0) - (1 : Int32)) (M.1 17 1)))) (M.1 17 0))) (fun r => some r))
set_option maxHeartbeats 2000000 in
theorem r_X6_waysTo (v1 : Int32) (v2 : Int64) (v4 : Int64) (M : Mem) : RG C_X6_waysTo (0, [some (.ref 17), some (.int v1), some (.long v2), none, some (.long v4), none, none, none, none], [], M, 0) (d_X6_waysTo v1 v2 v4 M) (fun v => .inr (.inl (some (.int v)), M)) := by
  unfold d_X6_waysTo
  refine RG.st 4 (congrFun (congrFun (congrFun (congrFun b_X6_waysTo_0 v1) v2) v4) M) ?_
  refine RG.loop (hd := (fun (a1 : Int32 × Int32) => (6, [some (.ref 17), some (.int v1), some (.long v2), none, some (.long v4), none, some (.int a1.1), some (.int a1.2), none], [], M, 0))) (ex := (fun (a1 : Int32 × Int32) => (79, [some (.ref 17), some (.int v1), some (.long v2), none, some (.long v4), none, some (.int a1.1), some (.int a1.2), none], [], M, 0))) (rt := (fun (v : Int32) => (.inl (some (.int v)), M))) (l_X6_waysTo_1 v1 v2 v4 M) (fun a2 => ?_) (fun r v h => by cases h; rfl)
  show RG C_X6_waysTo (79, [some (.ref 17), some (.int v1), some (.long v2), none, some (.long v4), none, some (.int a2.1), some (.int a2.2), none], [], M, 0) _ _
  exact RG.fin rfl (Rend.run 21 (congrFun (congrFun (congrFun (congrFun (congrFun b_X6_waysTo_5 v1) v2) v4) M) a2))
def fn_X6_waysTo : Fn := fun av M => match av with
  | [.ref r0, .int v1, .long v2, .long v4] => bif Nat.beq r0 17 then (d_X6_waysTo v1 v2 v4 M).bind fun v => some (.inl (some (.int v)), M) else (none)
  | _ => none
theorem cfg_X6_waysTo : CfgOK RX6 cX6_waysTo (C_X6_waysTo) 4 := ⟨tk_X6_waysTo, csF_nd, flk_X6, (List.forall_mem_cons.mpr ⟨Or.inr ⟨yX7_rest, cX7_rest, 3, (some .int), none, 1, ok_X7_rest, by decide, by decide, w_code_Sumsetry_rest__II_I, w_initialized_Sumsetry, ⟨by decide, by decide⟩, Or.inr (Or.inl ⟨rfl, rfl, show (parseMethodDescriptor yX7_rest.desc).map (fun d => d.parameters.length) = some 2 from by decide +kernel, ⟨"Sumsetry", by decide +kernel⟩, w_static_Sumsetry_rest__II_I⟩)⟩,
    List.forall_mem_cons.mpr ⟨Or.inr ⟨yX6_powerOf, cX6_powerOf, 2, (some .int), none, 2, ok_X6_powerOf, by decide, by decide, w_code_Sumsetry_Transforms_powerOf__I_I, w_initialized_Sumsetry_Transforms, ⟨by decide, by decide⟩, Or.inr (Or.inr ⟨rfl, rfl, show (parseMethodDescriptor yX6_powerOf.desc).map (fun d => d.parameters.length + 1) = some 2 from by decide +kernel, w_methodLink_Sumsetry_Transforms_34, w_instanceMethod_Sumsetry_Transforms_powerOf__I_I, w_selects_Sumsetry_Transforms_powerOf__I_I, ⟨_, rfl, rfl⟩⟩)⟩,
    List.forall_mem_cons.mpr ⟨Or.inr ⟨yX6_valueAt, cX6_valueAt, 6, (some .int), none, 3, ok_X6_valueAt, by decide, by decide, w_code_Sumsetry_Transforms_valueAt__IJ_I, w_initialized_Sumsetry_Transforms, ⟨by decide, by decide⟩, Or.inr (Or.inr ⟨rfl, rfl, show (parseMethodDescriptor yX6_valueAt.desc).map (fun d => d.parameters.length + 1) = some 3 from by decide +kernel, w_methodLink_Sumsetry_Transforms_38, w_instanceMethod_Sumsetry_Transforms_valueAt__IJ_I, w_selects_Sumsetry_Transforms_valueAt__IJ_I, ⟨_, rfl, rfl⟩⟩)⟩,
    List.forall_mem_cons.mpr ⟨Or.inr ⟨yX7_share, cX7_share, 2, (some .int), none, 1, ok_X7_share, by decide, by decide, w_code_Sumsetry_share__II_I, w_initialized_Sumsetry, ⟨by decide, by decide⟩, Or.inr (Or.inl ⟨rfl, rfl, show (parseMethodDescriptor yX7_share.desc).map (fun d => d.parameters.length) = some 2 from by decide +kernel, ⟨"Sumsetry", by decide +kernel⟩, w_static_Sumsetry_share__II_I⟩)⟩, fun _ h => absurd h List.not_mem_nil⟩⟩⟩⟩), ink_X6, lgk_X6, fun e h => absurd h List.not_mem_nil, (fun h hh => absurd hh List.not_mem_nil)⟩
theorem ok_X6_waysTo : OkM csF yX6_waysTo (Cond.code yX6_waysTo cX6_waysTo 9 (some .int)) 4 0 fn_X6_waysTo :=
  OkM_of (own := RX6) (C := C_X6_waysTo) (by decide +kernel) rfl (cfg_X6_waysTo) rfl rfl rfl rfl (by
    intro av M o M' h
    unfold fn_X6_waysTo at h
    split at h
    · rename_i r0 v1 v2 v4
      rcases bif_cs h with ⟨hb, h⟩ | ⟨-, h⟩
      · skip
        have hr0 := hb
        obtain rfl := Nat.eq_of_beq_eq_true hr0
        obtain ⟨w, hw, h⟩ := bind_cs h
        cases h
        exact ⟨rfl, Nat.le_of_ble_eq_true rfl, (r_X6_waysTo v1 v2 v4 M) w hw⟩
      · cases h
    · cases h)
def t_X7_isFrom : List (Nat × Instr × Nat) := [(0, .iload_n 0, 1), (1, .iload_n 1, 1), (2, .if_icmp .gt 12, 3), (5, .iload_n 1, 1), (6, .iload_n 2, 1), (7, .if_icmp .gt 7, 3), (10, .iconst 1, 1), (11, .goto 4, 3), (14, .iconst 0, 1), (15, .ireturn, 1)]
theorem tk_X7_isFrom : ∀ x ∈ t_X7_isFrom, decode cX7_isFrom x.1 = .ok x.2 := by decide +kernel
def C_X7_isFrom : Cfg := (t_X7_isFrom, csF, fl_X7, [], in_X7, lg_X7, [], [], none, (some .boolean), 0)
set_option maxRecDepth 100000 in
theorem b_X7_isFrom_0 : (fun (v0 : Int32) (v1 : Int32) (v2 : Int32) (M : Mem) => run C_X7_isFrom 3 (0, [some (.int v0), some (.int v1), some (.int v2)], [], M, 0)) = (fun (v0 : Int32) (v1 : Int32) (v2 : Int32) (M : Mem) => some (.inl ((br (!decide (v0 ≤ v1)) 2 3 (12)), [some (.int v0), some (.int v1), some (.int v2)], [], M, 0))) := by rfl
set_option maxRecDepth 100000 in
theorem b_X7_isFrom_1 : (fun (v0 : Int32) (v1 : Int32) (v2 : Int32) (M : Mem) => run C_X7_isFrom 3 (5, [some (.int v0), some (.int v1), some (.int v2)], [], M, 0)) = (fun (v0 : Int32) (v1 : Int32) (v2 : Int32) (M : Mem) => some (.inl ((br (!decide (v1 ≤ v2)) 7 3 (7)), [some (.int v0), some (.int v1), some (.int v2)], [], M, 0))) := by rfl
set_option maxRecDepth 100000 in
theorem b_X7_isFrom_2 : (fun (v0 : Int32) (v1 : Int32) (v2 : Int32) (M : Mem) => run C_X7_isFrom 3 (10, [some (.int v0), some (.int v1), some (.int v2)], [], M, 0)) = (fun (v0 : Int32) (v1 : Int32) (v2 : Int32) (M : Mem) => some (.inr (.inl (some (.int (1 : Int32))), M, 0))) := by rfl
set_option maxRecDepth 100000 in
theorem b_X7_isFrom_3 : (fun (v0 : Int32) (v1 : Int32) (v2 : Int32) (M : Mem) => run C_X7_isFrom 2 (14, [some (.int v0), some (.int v1), some (.int v2)], [], M, 0)) = (fun (v0 : Int32) (v1 : Int32) (v2 : Int32) (M : Mem) => some (.inr (.inl (some (.int (0 : Int32))), M, 0))) := by rfl
set_option maxRecDepth 100000 in
theorem b_X7_isFrom_4 : (fun (v0 : Int32) (v1 : Int32) (v2 : Int32) (M : Mem) => run C_X7_isFrom 2 (14, [some (.int v0), some (.int v1), some (.int v2)], [], M, 0)) = (fun (v0 : Int32) (v1 : Int32) (v2 : Int32) (M : Mem) => some (.inr (.inl (some (.int (0 : Int32))), M, 0))) := by rfl
def d_X7_isFrom (v0 : Int32) (v1 : Int32) (v2 : Int32) : Int32 := (if v0 ≤ v1 then (if v1 ≤ v2 then (1 : Int32) else (0 : Int32)) else (0 : Int32))
set_option maxHeartbeats 2000000 in
theorem r_X7_isFrom (v0 : Int32) (v1 : Int32) (v2 : Int32) (M : Mem) : RG C_X7_isFrom (0, [some (.int v0), some (.int v1), some (.int v2)], [], M, 0) (some (d_X7_isFrom v0 v1 v2)) (fun v => .inr (.inl (some (.int v)), M)) := by
  unfold d_X7_isFrom
  refine RG.st 3 (congrFun (congrFun (congrFun (congrFun b_X7_isFrom_0 v0) v1) v2) M) ?_
  refine RG.ites (fun h1 => RG.brNF (q := 5) h1 rfl ?_) (fun h1 => RG.brNT (q := 14) h1 rfl ?_)
  · refine RG.st 3 (congrFun (congrFun (congrFun (congrFun b_X7_isFrom_1 v0) v1) v2) M) ?_
    refine RG.ites (fun h2 => RG.brNF (q := 10) h2 rfl ?_) (fun h2 => RG.brNT (q := 14) h2 rfl ?_)
    · exact RG.fin rfl (Rend.run 3 (congrFun (congrFun (congrFun (congrFun b_X7_isFrom_2 v0) v1) v2) M))
    · exact RG.fin rfl (Rend.run 2 (congrFun (congrFun (congrFun (congrFun b_X7_isFrom_3 v0) v1) v2) M))
  · exact RG.fin rfl (Rend.run 2 (congrFun (congrFun (congrFun (congrFun b_X7_isFrom_4 v0) v1) v2) M))
def fn_X7_isFrom : Fn := fun av M => match av with
  | [.int v0, .int v1, .int v2] => some (.inl (some (.int (d_X7_isFrom v0 v1 v2))), M)
  | _ => none
theorem cfg_X7_isFrom : CfgOK RX7 cX7_isFrom (C_X7_isFrom) 1 := ⟨tk_X7_isFrom, csF_nd, flk_X7, (fun e h => absurd h List.not_mem_nil), ink_X7, lgk_X7, fun e h => absurd h List.not_mem_nil, (fun h hh => absurd hh List.not_mem_nil)⟩
theorem ok_X7_isFrom : OkM csF yX7_isFrom (Cond.code yX7_isFrom cX7_isFrom 3 (some .boolean)) 1 0 fn_X7_isFrom :=
  OkM_of (own := RX7) (C := C_X7_isFrom) (by decide +kernel) rfl (cfg_X7_isFrom) rfl rfl rfl rfl (by
    intro av M o M' h
    unfold fn_X7_isFrom at h
    split at h
    · rename_i v0 v1 v2
      cases h
      exact ⟨rfl, Nat.le_of_ble_eq_true rfl, (r_X7_isFrom v0 v1 v2 M) _ rfl⟩
    · cases h)
def t_X7_group : List (Nat × Instr × Nat) := [(0, .iconst 1, 1), (1, .iload_n 1, 1), (2, .bipush 36, 2), (4, .invokestatic 52, 3), (7, .ifCond .eq 21, 3), (10, .iconst 1, 1), (11, .iload_n 2, 1), (12, .bipush 36, 2), (14, .invokestatic 52, 3), (17, .ifCond .eq 11, 3), (20, .iload_n 1, 1), (21, .iload_n 2, 1), (22, .imul, 1), (23, .bipush 36, 2), (25, .if_icmp .le 13, 3), (28, .new 56, 3), (31, .dup, 1), (32, .ldc 58, 2), (34, .invokespecial 60, 3), (37, .athrow, 1), (38, .aload_n 0, 1), (39, .getfield 10, 3), (42, .iload_n 1, 1), (43, .iload_n 2, 1), (44, .invokevirtual 63, 3), (47, .aload_n 0, 1), (48, .iconst 0, 1), (49, .putfield 20, 3), (52, .aload_n 0, 1), (53, .getfield 41, 3), (56, .invokevirtual 67, 3), (59, .aload_n 0, 1), (60, .getfield 48, 3), (63, .invokevirtual 70, 3), (66, .aload_n 0, 1), (67, .getfield 10, 3), (70, .getfield 73, 3), (73, .ireturn, 1)]
theorem tk_X7_group : ∀ x ∈ t_X7_group, decode cX7_group x.1 = .ok x.2 := by decide +kernel
def C_X7_group : Cfg := (t_X7_group, csF, fl_X7, [(52, 0, 5, 3, 0, fn_X7_isFrom), (63, 2, 1, 3, 0, fn_X1_begin), (67, 2, 3, 1, 0, fn_X3_clear), (70, 2, 4, 1, 0, fn_X6_forget)], in_X7, lg_X7, [(28, "java/lang/IllegalArgumentException", 56, 58, 60, "no such group")], [], none, (some .int), 1)
set_option maxRecDepth 100000 in
theorem b_X7_group_0 : (fun (v1 : Int32) (v2 : Int32) (M : Mem) => run C_X7_group 5 (0, [some (.ref 0), some (.int v1), some (.int v2)], [], M, 0)) = (fun (v1 : Int32) (v2 : Int32) (M : Mem) => some (.inl ((br (decide ((d_X7_isFrom (1 : Int32) v1 (36 : Int32)) = 0)) 7 3 (21)), [some (.ref 0), some (.int v1), some (.int v2)], [], M, 0))) := by rfl
set_option maxRecDepth 100000 in
theorem b_X7_group_1 : (fun (v1 : Int32) (v2 : Int32) (M : Mem) => run C_X7_group 1 (28, [some (.ref 0), some (.int v1), some (.int v2)], [], M, 0)) = (fun (v1 : Int32) (v2 : Int32) (M : Mem) => some (.inr (.inr "java/lang/IllegalArgumentException", M, 1))) := by rfl
set_option maxRecDepth 100000 in
theorem b_X7_group_2 : (fun (v1 : Int32) (v2 : Int32) (M : Mem) => run C_X7_group 5 (10, [some (.ref 0), some (.int v1), some (.int v2)], [], M, 0)) = (fun (v1 : Int32) (v2 : Int32) (M : Mem) => some (.inl ((br (decide ((d_X7_isFrom (1 : Int32) v2 (36 : Int32)) = 0)) 17 3 (11)), [some (.ref 0), some (.int v1), some (.int v2)], [], M, 0))) := by rfl
set_option maxRecDepth 100000 in
theorem b_X7_group_3 : (fun (v1 : Int32) (v2 : Int32) (M : Mem) => run C_X7_group 1 (28, [some (.ref 0), some (.int v1), some (.int v2)], [], M, 0)) = (fun (v1 : Int32) (v2 : Int32) (M : Mem) => some (.inr (.inr "java/lang/IllegalArgumentException", M, 1))) := by rfl
set_option maxRecDepth 100000 in
theorem b_X7_group_4 : (fun (v1 : Int32) (v2 : Int32) (M : Mem) => run C_X7_group 5 (20, [some (.ref 0), some (.int v1), some (.int v2)], [], M, 0)) = (fun (v1 : Int32) (v2 : Int32) (M : Mem) => some (.inl ((br (decide ((v1 * v2) ≤ (36 : Int32))) 25 3 (13)), [some (.ref 0), some (.int v1), some (.int v2)], [], M, 0))) := by rfl
set_option maxRecDepth 100000 in
theorem b_X7_group_5 : (fun (v1 : Int32) (v2 : Int32) (M : Mem) => run C_X7_group 4 (38, [some (.ref 0), some (.int v1), some (.int v2)], [], M, 0)) = (fun (v1 : Int32) (v2 : Int32) (M : Mem) => some (.inl (44, [some (.ref 0), some (.int v1), some (.int v2)], [.int v2, .int v1, .ref 2], M, 0))) := by rfl
set_option maxRecDepth 100000 in
theorem b_X7_group_6 : (fun (v1 : Int32) (v2 : Int32) (M1 : Mem) => run C_X7_group 13 (47, [some (.ref 0), some (.int v1), some (.int v2)], [], M1, 0)) = (fun (v1 : Int32) (v2 : Int32) (M1 : Mem) => some (.inr (.inl (some (.int ((d_X6_forget (d_X3_clear (sI M1 0 2 (0 : Int32)))).1 2 2))), (d_X6_forget (d_X3_clear (sI M1 0 2 (0 : Int32)))), 0))) := by rfl
set_option maxRecDepth 100000 in
theorem b_X7_group_7 : (fun (v1 : Int32) (v2 : Int32) (M : Mem) => run C_X7_group 1 (28, [some (.ref 0), some (.int v1), some (.int v2)], [], M, 0)) = (fun (v1 : Int32) (v2 : Int32) (M : Mem) => some (.inr (.inr "java/lang/IllegalArgumentException", M, 1))) := by rfl
def d_X7_group (v1 : Int32) (v2 : Int32) (M : Mem) : Option (Res × Mem) := (if (d_X7_isFrom (1 : Int32) v1 (36 : Int32)) = 0 then some (.inr "java/lang/IllegalArgumentException", M) else (if (d_X7_isFrom (1 : Int32) v2 (36 : Int32)) = 0 then some (.inr "java/lang/IllegalArgumentException", M) else (if (v1 * v2) ≤ (36 : Int32) then (onV (d_X1_begin v1 v2 M) (fun M1 => some (.inl (some (.int ((d_X6_forget (d_X3_clear (sI M1 0 2 (0 : Int32)))).1 2 2))), (d_X6_forget (d_X3_clear (sI M1 0 2 (0 : Int32)))))) (fun r => some r)) else some (.inr "java/lang/IllegalArgumentException", M))))
set_option maxHeartbeats 2000000 in
theorem r_X7_group (v1 : Int32) (v2 : Int32) (M : Mem) : RG C_X7_group (0, [some (.ref 0), some (.int v1), some (.int v2)], [], M, 0) (d_X7_group v1 v2 M) (fun r => .inr r) := by
  unfold d_X7_group
  refine RG.st 5 (congrFun (congrFun (congrFun b_X7_group_0 v1) v2) M) ?_
  refine RG.ite (fun h1 => RG.brT (q := 28) h1 rfl ?_) (fun h1 => RG.brF (q := 10) h1 rfl ?_)
  · exact RG.fin rfl (Rend.run 1 (congrFun (congrFun (congrFun b_X7_group_1 v1) v2) M))
  · refine RG.st 5 (congrFun (congrFun (congrFun b_X7_group_2 v1) v2) M) ?_
    refine RG.ite (fun h2 => RG.brT (q := 28) h2 rfl ?_) (fun h2 => RG.brF (q := 20) h2 rfl ?_)
    · exact RG.fin rfl (Rend.run 1 (congrFun (congrFun (congrFun b_X7_group_3 v1) v2) M))
    · refine RG.st 5 (congrFun (congrFun (congrFun b_X7_group_4 v1) v2) M) ?_
      refine RG.ite (fun h3 => RG.brT (q := 38) h3 rfl ?_) (fun h3 => RG.brF (q := 28) h3 rfl ?_)
      · refine RG.st 4 (congrFun (congrFun (congrFun b_X7_group_5 v1) v2) M) ?_
        refine RG.callV (fun M1 h4 => RG.st 1 (run_callV (v := none) rfl rfl rfl rfl rfl h4) ?_) (fun E M1 h4 => RG.fin rfl (Rend.run 1 (run_callVx rfl rfl rfl rfl rfl h4 rfl)))
        show RG C_X7_group (47, [some (.ref 0), some (.int v1), some (.int v2)], [], M1, 0) _ _
        exact RG.fin rfl (Rend.run 13 (congrFun (congrFun (congrFun b_X7_group_6 v1) v2) M1))
      · exact RG.fin rfl (Rend.run 1 (congrFun (congrFun (congrFun b_X7_group_7 v1) v2) M))
def fn_X7_group : Fn := fun av M => match av with
  | [.ref r0, .int v1, .int v2] => bif Nat.beq r0 0 then (d_X7_group v1 v2 M) else (none)
  | _ => none
theorem cfg_X7_group : CfgOK RX7 cX7_group (C_X7_group) 6 := ⟨tk_X7_group, csF_nd, flk_X7, (List.forall_mem_cons.mpr ⟨Or.inr ⟨yX7_isFrom, cX7_isFrom, 3, (some .boolean), none, 1, ok_X7_isFrom, by decide, by decide, w_code_Sumsetry_isFrom__III_Z, w_initialized_Sumsetry, ⟨by decide, by decide⟩, Or.inl ⟨rfl, show (parseMethodDescriptor yX7_isFrom.desc).map (fun d => d.parameters.length) = some 3 from by decide +kernel, w_methodLink_Sumsetry_52, w_static_Sumsetry_isFrom__III_Z⟩⟩,
    List.forall_mem_cons.mpr ⟨Or.inr ⟨yX1_begin, cX1_begin, 4, none, none, 3, ok_X1_begin, by decide, by decide, w_code_Sumsetry_Group_begin__II_V, w_initialized_Sumsetry_Group, ⟨by decide, by decide⟩, Or.inr (Or.inr ⟨rfl, rfl, show (parseMethodDescriptor yX1_begin.desc).map (fun d => d.parameters.length + 1) = some 3 from by decide +kernel, w_methodLink_Sumsetry_63, w_instanceMethod_Sumsetry_Group_begin__II_V, w_selects_Sumsetry_Group_begin__II_V, ⟨_, rfl, rfl⟩⟩)⟩,
    List.forall_mem_cons.mpr ⟨Or.inr ⟨yX3_clear, cX3_clear, 1, none, none, 1, ok_X3_clear, by decide, by decide, w_code_Sumsetry_Row_clear___V, w_initialized_Sumsetry_Row, ⟨by decide, by decide⟩, Or.inr (Or.inr ⟨rfl, rfl, show (parseMethodDescriptor yX3_clear.desc).map (fun d => d.parameters.length + 1) = some 1 from by decide +kernel, w_methodLink_Sumsetry_67, w_instanceMethod_Sumsetry_Row_clear___V, w_selects_Sumsetry_Row_clear___V, ⟨_, rfl, rfl⟩⟩)⟩,
    List.forall_mem_cons.mpr ⟨Or.inr ⟨yX6_forget, cX6_forget, 1, none, none, 1, ok_X6_forget, by decide, by decide, w_code_Sumsetry_Transforms_forget___V, w_initialized_Sumsetry_Transforms, ⟨by decide, by decide⟩, Or.inr (Or.inr ⟨rfl, rfl, show (parseMethodDescriptor yX6_forget.desc).map (fun d => d.parameters.length + 1) = some 1 from by decide +kernel, w_methodLink_Sumsetry_70, w_instanceMethod_Sumsetry_Transforms_forget___V, w_selects_Sumsetry_Transforms_forget___V, ⟨_, rfl, rfl⟩⟩)⟩, fun _ h => absurd h List.not_mem_nil⟩⟩⟩⟩), ink_X7, lgk_X7, by decide +kernel, (fun h hh => absurd hh List.not_mem_nil)⟩
theorem ok_X7_group : OkM csF yX7_group (Cond.code yX7_group cX7_group 3 (some .int)) 6 1 fn_X7_group :=
  OkM_of (own := RX7) (C := C_X7_group) (by decide +kernel) rfl (cfg_X7_group) rfl rfl rfl rfl (by
    intro av M o M' h
    unfold fn_X7_group at h
    split at h
    · rename_i r0 v1 v2
      rcases bif_cs h with ⟨hb, h⟩ | ⟨-, h⟩
      · skip
        have hr0 := hb
        obtain rfl := Nat.eq_of_beq_eq_true hr0
        exact ⟨rfl, Nat.le_of_ble_eq_true rfl, (r_X7_group v1 v2 M) (o, M') h⟩
      · cases h
    · cases h)
def t_X7_needElement : List (Nat × Instr × Nat) := [(0, .iload_n 1, 1), (1, .ifCond .lt 14, 3), (4, .iload_n 1, 1), (5, .aload_n 0, 1), (6, .getfield 10, 3), (9, .getfield 73, 3), (12, .if_icmp .lt 14, 3), (15, .new 256, 3), (18, .dup, 1), (19, .ldc_w 261, 3), (22, .invokespecial 260, 3), (25, .athrow, 1), (26, .return_, 1)]
theorem tk_X7_needElement : ∀ x ∈ t_X7_needElement, decode cX7_needElement x.1 = .ok x.2 := by decide +kernel
def C_X7_needElement : Cfg := (t_X7_needElement, csF, fl_X7, [], in_X7, lg_X7, [(15, "java/lang/IndexOutOfBoundsException", 256, 261, 260, "no such element")], [], none, none, 1)
set_option maxRecDepth 100000 in
theorem b_X7_needElement_0 : (fun (v1 : Int32) (M : Mem) => run C_X7_needElement 2 (0, [some (.ref 0), some (.int v1)], [], M, 0)) = (fun (v1 : Int32) (M : Mem) => some (.inl ((br (decide (v1 < 0)) 1 3 (14)), [some (.ref 0), some (.int v1)], [], M, 0))) := by rfl
set_option maxRecDepth 100000 in
theorem b_X7_needElement_1 : (fun (v1 : Int32) (M : Mem) => run C_X7_needElement 1 (15, [some (.ref 0), some (.int v1)], [], M, 0)) = (fun (v1 : Int32) (M : Mem) => some (.inr (.inr "java/lang/IndexOutOfBoundsException", M, 1))) := by rfl
set_option maxRecDepth 100000 in
theorem b_X7_needElement_2 : (fun (v1 : Int32) (M : Mem) => run C_X7_needElement 5 (4, [some (.ref 0), some (.int v1)], [], M, 0)) = (fun (v1 : Int32) (M : Mem) => some (.inl ((br (decide (v1 < (M.1 2 2))) 12 3 (14)), [some (.ref 0), some (.int v1)], [], M, 0))) := by rfl
set_option maxRecDepth 100000 in
theorem b_X7_needElement_3 : (fun (v1 : Int32) (M : Mem) => run C_X7_needElement 1 (26, [some (.ref 0), some (.int v1)], [], M, 0)) = (fun (v1 : Int32) (M : Mem) => some (.inr (.inl none, M, 0))) := by rfl
set_option maxRecDepth 100000 in
theorem b_X7_needElement_4 : (fun (v1 : Int32) (M : Mem) => run C_X7_needElement 1 (15, [some (.ref 0), some (.int v1)], [], M, 0)) = (fun (v1 : Int32) (M : Mem) => some (.inr (.inr "java/lang/IndexOutOfBoundsException", M, 1))) := by rfl
def d_X7_needElement (v1 : Int32) (M : Mem) : Option (Res × Mem) := (if v1 < 0 then some (.inr "java/lang/IndexOutOfBoundsException", M) else (if v1 < (M.1 2 2) then some (.inl none, M) else some (.inr "java/lang/IndexOutOfBoundsException", M)))
set_option maxHeartbeats 2000000 in
theorem r_X7_needElement (v1 : Int32) (M : Mem) : RG C_X7_needElement (0, [some (.ref 0), some (.int v1)], [], M, 0) (d_X7_needElement v1 M) (fun r => .inr r) := by
  unfold d_X7_needElement
  refine RG.st 2 (congrFun (congrFun b_X7_needElement_0 v1) M) ?_
  refine RG.ite (fun h1 => RG.brT (q := 15) h1 rfl ?_) (fun h1 => RG.brF (q := 4) h1 rfl ?_)
  · exact RG.fin rfl (Rend.run 1 (congrFun (congrFun b_X7_needElement_1 v1) M))
  · refine RG.st 5 (congrFun (congrFun b_X7_needElement_2 v1) M) ?_
    refine RG.ite (fun h2 => RG.brT (q := 26) h2 rfl ?_) (fun h2 => RG.brF (q := 15) h2 rfl ?_)
    · exact RG.fin rfl (Rend.run 1 (congrFun (congrFun b_X7_needElement_3 v1) M))
    · exact RG.fin rfl (Rend.run 1 (congrFun (congrFun b_X7_needElement_4 v1) M))
def fn_X7_needElement : Fn := fun av M => match av with
  | [.ref r0, .int v1] => bif Nat.beq r0 0 then (d_X7_needElement v1 M) else (none)
  | _ => none
theorem cfg_X7_needElement : CfgOK RX7 cX7_needElement (C_X7_needElement) 6 := ⟨tk_X7_needElement, csF_nd, flk_X7, (fun e h => absurd h List.not_mem_nil), ink_X7, lgk_X7, by decide +kernel, (fun h hh => absurd hh List.not_mem_nil)⟩
theorem ok_X7_needElement : OkM csF yX7_needElement (Cond.code yX7_needElement cX7_needElement 2 none) 6 1 fn_X7_needElement :=
  OkM_of (own := RX7) (C := C_X7_needElement) (by decide +kernel) rfl (cfg_X7_needElement) rfl rfl rfl rfl (by
    intro av M o M' h
    unfold fn_X7_needElement at h
    split at h
    · rename_i r0 v1
      rcases bif_cs h with ⟨hb, h⟩ | ⟨-, h⟩
      · skip
        have hr0 := hb
        obtain rfl := Nat.eq_of_beq_eq_true hr0
        exact ⟨rfl, Nat.le_of_ble_eq_true rfl, (r_X7_needElement v1 M) (o, M') h⟩
      · cases h
    · cases h)
def t_X7_add : List (Nat × Instr × Nat) := [(0, .aload_n 0, 1), (1, .iload_n 1, 1), (2, .invokevirtual 76, 3), (5, .aload_n 0, 1), (6, .iload_n 2, 1), (7, .invokevirtual 76, 3), (10, .aload_n 0, 1), (11, .getfield 10, 3), (14, .iload_n 1, 1), (15, .iload_n 3, 1), (16, .ifCond .eq 7, 3), (19, .iload_n 2, 1), (20, .goto 11, 3), (23, .aload_n 0, 1), (24, .getfield 10, 3), (27, .iload_n 2, 1), (28, .invokevirtual 80, 3), (31, .invokevirtual 84, 3), (34, .ireturn, 1)]
theorem tk_X7_add : ∀ x ∈ t_X7_add, decode cX7_add x.1 = .ok x.2 := by decide +kernel
def C_X7_add : Cfg := (t_X7_add, csF, fl_X7, [(76, 2, 5, 2, 1, fn_X7_needElement), (80, 2, 1, 2, 0, fn_X1_lessOf), (84, 2, 1, 3, 0, fn_X1_plus)], in_X7, lg_X7, [], [], none, (some .int), 2)
set_option maxRecDepth 100000 in
theorem b_X7_add_0 : (fun (v1 : Int32) (v2 : Int32) (v3 : Int32) (M : Mem) => run C_X7_add 2 (0, [some (.ref 0), some (.int v1), some (.int v2), some (.int v3)], [], M, 0)) = (fun (v1 : Int32) (v2 : Int32) (v3 : Int32) (M : Mem) => some (.inl (2, [some (.ref 0), some (.int v1), some (.int v2), some (.int v3)], [.int v1, .ref 0], M, 0))) := by rfl
set_option maxRecDepth 100000 in
theorem b_X7_add_1 : (fun (v1 : Int32) (v2 : Int32) (v3 : Int32) (M1 : Mem) => run C_X7_add 2 (5, [some (.ref 0), some (.int v1), some (.int v2), some (.int v3)], [], M1, 1)) = (fun (v1 : Int32) (v2 : Int32) (v3 : Int32) (M1 : Mem) => some (.inl (7, [some (.ref 0), some (.int v1), some (.int v2), some (.int v3)], [.int v2, .ref 0], M1, 1))) := by rfl
set_option maxRecDepth 100000 in
theorem b_X7_add_2 : (fun (v1 : Int32) (v2 : Int32) (v3 : Int32) (M2 : Mem) => run C_X7_add 5 (10, [some (.ref 0), some (.int v1), some (.int v2), some (.int v3)], [], M2, 2)) = (fun (v1 : Int32) (v2 : Int32) (v3 : Int32) (M2 : Mem) => some (.inl ((br (decide (v3 = 0)) 16 3 (7)), [some (.ref 0), some (.int v1), some (.int v2), some (.int v3)], [.int v1, .ref 2], M2, 2))) := by rfl
set_option maxRecDepth 100000 in
theorem b_X7_add_3 : (fun (v1 : Int32) (v2 : Int32) (v3 : Int32) (M2 : Mem) => run C_X7_add 4 (23, [some (.ref 0), some (.int v1), some (.int v2), some (.int v3)], [.int v1, .ref 2], M2, 2)) = (fun (v1 : Int32) (v2 : Int32) (v3 : Int32) (M2 : Mem) => some (.inl (31, [some (.ref 0), some (.int v1), some (.int v2), some (.int v3)], [.int (d_X1_lessOf v2 M2), .int v1, .ref 2], M2, 2))) := by rfl
set_option maxRecDepth 100000 in
theorem b_X7_add_4 : (fun (v1 : Int32) (v2 : Int32) (v3 : Int32) (M2 : Mem) => run C_X7_add 2 (19, [some (.ref 0), some (.int v1), some (.int v2), some (.int v3)], [.int v1, .ref 2], M2, 2)) = (fun (v1 : Int32) (v2 : Int32) (v3 : Int32) (M2 : Mem) => some (.inl (31, [some (.ref 0), some (.int v1), some (.int v2), some (.int v3)], [.int v2, .int v1, .ref 2], M2, 2))) := by rfl
theorem m_X7_add_0 (v1 : Int32) (v2 : Int32) (v3 : Int32) (M2 : Mem) : Rto C_X7_add (10, [some (.ref 0), some (.int v1), some (.int v2), some (.int v3)], [], M2, 2) (31, [some (.ref 0), some (.int v1), some (.int v2), some (.int v3)], [.int (if v3 = 0 then (d_X1_lessOf v2 M2) else v2), .int v1, .ref 2], M2, 2) := by
  refine Rto.trans (Rto.run 5 (congrFun (congrFun (congrFun (congrFun b_X7_add_2 v1) v2) v3) M2)) ?_
  by_cases h : v3 = 0
  · refine Rto.trans (Rto.brT (q := 23) h rfl) ?_
    refine Rto.trans (Rto.run 4 (congrFun (congrFun (congrFun (congrFun b_X7_add_3 v1) v2) v3) M2)) ?_
    exact Rto.eq (by first | (simp only [if_pos h]; done) | rfl | exact absurd rfl h | (simp; done))
  · refine Rto.trans (Rto.brF (q := 19) h rfl) ?_
    refine Rto.trans (Rto.run 2 (congrFun (congrFun (congrFun (congrFun b_X7_add_4 v1) v2) v3) M2)) ?_
    exact Rto.eq (by first | (simp only [if_neg h]; done) | rfl | exact absurd rfl h | (simp; done))
set_option maxRecDepth 100000 in
theorem b_X7_add_5 : (fun (v1 : Int32) (v2 : Int32) (v3 : Int32) (M2 : Mem) => run C_X7_add 2 (31, [some (.ref 0), some (.int v1), some (.int v2), some (.int v3)], [.int (if v3 = 0 then (d_X1_lessOf v2 M2) else v2), .int v1, .ref 2], M2, 2)) = (fun (v1 : Int32) (v2 : Int32) (v3 : Int32) (M2 : Mem) => some (.inr (.inl (some (.int (d_X1_plus v1 (if v3 = 0 then (d_X1_lessOf v2 M2) else v2) M2))), M2, 2))) := by rfl
def d_X7_add (v1 : Int32) (v2 : Int32) (v3 : Int32) (M : Mem) : Option (Res × Mem) := (onV (d_X7_needElement v1 M) (fun M1 => (onV (d_X7_needElement v2 M1) (fun M2 => some (.inl (some (.int (d_X1_plus v1 (if v3 = 0 then (d_X1_lessOf v2 M2) else v2) M2))), M2)) (fun r => some r))) (fun r => some r))
set_option maxHeartbeats 2000000 in
theorem r_X7_add (v1 : Int32) (v2 : Int32) (v3 : Int32) (M : Mem) : RG C_X7_add (0, [some (.ref 0), some (.int v1), some (.int v2), some (.int v3)], [], M, 0) (d_X7_add v1 v2 v3 M) (fun r => .inr r) := by
  unfold d_X7_add
  refine RG.st 2 (congrFun (congrFun (congrFun (congrFun b_X7_add_0 v1) v2) v3) M) ?_
  refine RG.callV (fun M1 h1 => RG.st 1 (run_callV (v := none) rfl rfl rfl rfl rfl h1) ?_) (fun E M1 h1 => RG.fin rfl (Rend.run 1 (run_callVx rfl rfl rfl rfl rfl h1 rfl)))
  show RG C_X7_add (5, [some (.ref 0), some (.int v1), some (.int v2), some (.int v3)], [], M1, 1) _ _
  refine RG.st 2 (congrFun (congrFun (congrFun (congrFun b_X7_add_1 v1) v2) v3) M1) ?_
  refine RG.callV (fun M2 h2 => RG.st 1 (run_callV (v := none) rfl rfl rfl rfl rfl h2) ?_) (fun E M2 h2 => RG.fin rfl (Rend.run 1 (run_callVx rfl rfl rfl rfl rfl h2 rfl)))
  show RG C_X7_add (10, [some (.ref 0), some (.int v1), some (.int v2), some (.int v3)], [], M2, 2) _ _
  refine RG.step (m_X7_add_0 v1 v2 v3 M2) ?_
  exact RG.fin rfl (Rend.run 2 (congrFun (congrFun (congrFun (congrFun b_X7_add_5 v1) v2) v3) M2))
def fn_X7_add : Fn := fun av M => match av with
  | [.ref r0, .int v1, .int v2, .int v3] => bif Nat.beq r0 0 then (d_X7_add v1 v2 v3 M) else (none)
  | _ => none
theorem cfg_X7_add : CfgOK RX7 cX7_add (C_X7_add) 7 := ⟨tk_X7_add, csF_nd, flk_X7, (List.forall_mem_cons.mpr ⟨Or.inr ⟨yX7_needElement, cX7_needElement, 2, none, none, 6, ok_X7_needElement, by decide, by decide, w_code_Sumsetry_needElement__I_V, w_initialized_Sumsetry, ⟨by decide, by decide⟩, Or.inr (Or.inr ⟨rfl, rfl, show (parseMethodDescriptor yX7_needElement.desc).map (fun d => d.parameters.length + 1) = some 2 from by decide +kernel, w_methodLink_Sumsetry_76, w_instanceMethod_Sumsetry_needElement__I_V, w_selects_Sumsetry_needElement__I_V, ⟨_, rfl, rfl⟩⟩)⟩,
    List.forall_mem_cons.mpr ⟨Or.inr ⟨yX1_lessOf, cX1_lessOf, 2, (some .int), none, 2, ok_X1_lessOf, by decide, by decide, w_code_Sumsetry_Group_lessOf__I_I, w_initialized_Sumsetry_Group, ⟨by decide, by decide⟩, Or.inr (Or.inr ⟨rfl, rfl, show (parseMethodDescriptor yX1_lessOf.desc).map (fun d => d.parameters.length + 1) = some 2 from by decide +kernel, w_methodLink_Sumsetry_80, w_instanceMethod_Sumsetry_Group_lessOf__I_I, w_selects_Sumsetry_Group_lessOf__I_I, ⟨_, rfl, rfl⟩⟩)⟩,
    List.forall_mem_cons.mpr ⟨Or.inr ⟨yX1_plus, cX1_plus, 5, (some .int), none, 2, ok_X1_plus, by decide, by decide, w_code_Sumsetry_Group_plus__II_I, w_initialized_Sumsetry_Group, ⟨by decide, by decide⟩, Or.inr (Or.inr ⟨rfl, rfl, show (parseMethodDescriptor yX1_plus.desc).map (fun d => d.parameters.length + 1) = some 3 from by decide +kernel, w_methodLink_Sumsetry_84, w_instanceMethod_Sumsetry_Group_plus__II_I, w_selects_Sumsetry_Group_plus__II_I, ⟨_, rfl, rfl⟩⟩)⟩, fun _ h => absurd h List.not_mem_nil⟩⟩⟩), ink_X7, lgk_X7, fun e h => absurd h List.not_mem_nil, (fun h hh => absurd hh List.not_mem_nil)⟩
theorem ok_X7_add : OkM csF yX7_add (Cond.code yX7_add cX7_add 4 (some .int)) 7 2 fn_X7_add :=
  OkM_of (own := RX7) (C := C_X7_add) (by decide +kernel) rfl (cfg_X7_add) rfl rfl rfl rfl (by
    intro av M o M' h
    unfold fn_X7_add at h
    split at h
    · rename_i r0 v1 v2 v3
      rcases bif_cs h with ⟨hb, h⟩ | ⟨-, h⟩
      · skip
        have hr0 := hb
        obtain rfl := Nat.eq_of_beq_eq_true hr0
        exact ⟨rfl, Nat.le_of_ble_eq_true rfl, (r_X7_add v1 v2 v3 M) (o, M') h⟩
      · cases h
    · cases h)
theorem inb_keep {x : Int32} (h : ¬ d_X7_isFrom 0 x (30 - 1) = 0) : inb x 30 = true := by
  unfold d_X7_isFrom at h
  by_cases h1 : (0 : Int32) ≤ x
  · by_cases h2 : x ≤ (30 - 1 : Int32)
    · unfold inb
      have e1 := Int32.le_iff_toInt_le.mp h1
      have e2 := Int32.le_iff_toInt_le.mp h2
      have e3 : (0 : Int32).toInt = 0 := by decide
      have e4 : (30 - 1 : Int32).toInt = 29 := by decide
      simp only [Bool.and_eq_true, decide_eq_true_eq]
      omega
    · simp_all
  · simp_all
def t_X7_keepSet : List (Nat × Instr × Nat) := [(0, .lload_n 1, 1), (1, .lconst 0, 1), (2, .lcmp, 1), (3, .ifCond .eq 21, 3), (6, .iconst 0, 1), (7, .aload_n 0, 1), (8, .getfield 20, 3), (11, .aload_n 0, 1), (12, .getfield 16, 3), (15, .arraylength, 1), (16, .iconst 1, 1), (17, .isub, 1), (18, .invokestatic 52, 3), (21, .ifCond .ne 14, 3), (24, .new 198, 3), (27, .dup, 1), (28, .ldc_w 273, 3), (31, .invokespecial 202, 3), (34, .athrow, 1), (35, .aload_n 0, 1), (36, .getfield 16, 3), (39, .aload_n 0, 1), (40, .getfield 20, 3), (43, .lload_n 1, 1), (44, .lastore, 1), (45, .aload_n 0, 1), (46, .dup, 1), (47, .getfield 20, 3), (50, .iconst 1, 1), (51, .iadd, 1), (52, .putfield 20, 3), (55, .aload_n 0, 1), (56, .getfield 20, 3), (59, .iconst 1, 1), (60, .isub, 1), (61, .ireturn, 1)]
theorem tk_X7_keepSet : ∀ x ∈ t_X7_keepSet, decode cX7_keepSet x.1 = .ok x.2 := by decide +kernel
def C_X7_keepSet : Cfg := (t_X7_keepSet, csF, fl_X7, [(52, 0, 5, 3, 0, fn_X7_isFrom)], in_X7, lg_X7, [(24, "java/lang/IllegalStateException", 198, 273, 202, "empty, or too many sets")], [], none, (some .int), 1)
set_option maxRecDepth 100000 in
theorem b_X7_keepSet_0 : (fun (v1 : Int64) (M : Mem) => run C_X7_keepSet 4 (0, [some (.ref 0), some (.long v1), none], [], M, 0)) = (fun (v1 : Int64) (M : Mem) => some (.inl ((br (decide ((lg_cmp v1 (0 : Int64)) = 0)) 3 3 (21)), [some (.ref 0), some (.long v1), none], [], M, 0))) := by rfl
set_option maxRecDepth 100000 in
theorem b_X7_keepSet_1 : (fun (v1 : Int64) (M : Mem) => run C_X7_keepSet 1 (24, [some (.ref 0), some (.long v1), none], [], M, 0)) = (fun (v1 : Int64) (M : Mem) => some (.inr (.inr "java/lang/IllegalStateException", M, 1))) := by rfl
set_option maxRecDepth 100000 in
theorem b_X7_keepSet_2 : (fun (v1 : Int64) (M : Mem) => run C_X7_keepSet 10 (6, [some (.ref 0), some (.long v1), none], [], M, 0)) = (fun (v1 : Int64) (M : Mem) => some (.inl ((br (!decide ((d_X7_isFrom (0 : Int32) (M.1 0 2) ((30 : Int32) - (1 : Int32))) = 0)) 21 3 (14)), [some (.ref 0), some (.long v1), none], [], M, 0))) := by rfl
set_option maxRecDepth 100000 in
theorem b_X7_keepSet_3 : (fun (v1 : Int64) (M : Mem) => run C_X7_keepSet 1 (24, [some (.ref 0), some (.long v1), none], [], M, 0)) = (fun (v1 : Int64) (M : Mem) => some (.inr (.inr "java/lang/IllegalStateException", M, 1))) := by rfl
set_option maxRecDepth 100000 in
theorem b_X7_keepSet_4 : (fun (v1 : Int64) (M : Mem) => run C_X7_keepSet 5 (35, [some (.ref 0), some (.long v1), none], [], M, 0)) = (fun (v1 : Int64) (M : Mem) => some (.inl (44, [some (.ref 0), some (.long v1), none], [.long v1, .int (M.1 0 2), .ref 1], M, 0))) := by rfl
set_option maxRecDepth 100000 in
theorem b_X7_keepSet_5 : (fun (v1 : Int64) (M : Mem) => stp C_X7_keepSet (44, [some (.ref 0), some (.long v1), none], [.long v1, .int (M.1 0 2), .ref 1], M, 0)) = (fun (v1 : Int64) (M : Mem) => (if inb (M.1 0 2) 30 = true then some (.inl (45, [some (.ref 0), some (.long v1), none], [], (sL M 1 (ix (M.1 0 2)) v1), 0)) else none)) := by rfl
set_option maxRecDepth 100000 in
theorem b_X7_keepSet_6 : (fun (v1 : Int64) (M : Mem) => run C_X7_keepSet 11 (45, [some (.ref 0), some (.long v1), none], [], (sL M 1 (ix (M.1 0 2)) v1), 0)) = (fun (v1 : Int64) (M : Mem) => some (.inr (.inl (some (.int (((M.1 0 2) + (1 : Int32)) - (1 : Int32)))), (sI (sL M 1 (ix (M.1 0 2)) v1) 0 2 ((M.1 0 2) + (1 : Int32))), 0))) := by rfl
def d_X7_keepSet (v1 : Int64) (M : Mem) : Option (Res × Mem) := (if (lg_cmp v1 (0 : Int64)) = 0 then some (.inr "java/lang/IllegalStateException", M) else (if (d_X7_isFrom (0 : Int32) (M.1 0 2) ((30 : Int32) - (1 : Int32))) = 0 then some (.inr "java/lang/IllegalStateException", M) else some (.inl (some (.int (((M.1 0 2) + (1 : Int32)) - (1 : Int32)))), (sI (sL M 1 (ix (M.1 0 2)) v1) 0 2 ((M.1 0 2) + (1 : Int32))))))
set_option maxHeartbeats 2000000 in
theorem r_X7_keepSet (v1 : Int64) (M : Mem) : RG C_X7_keepSet (0, [some (.ref 0), some (.long v1), none], [], M, 0) (d_X7_keepSet v1 M) (fun r => .inr r) := by
  unfold d_X7_keepSet
  refine RG.st 4 (congrFun (congrFun b_X7_keepSet_0 v1) M) ?_
  refine RG.ite (fun h1 => RG.brT (q := 24) h1 rfl ?_) (fun h1 => RG.brF (q := 6) h1 rfl ?_)
  · exact RG.fin rfl (Rend.run 1 (congrFun (congrFun b_X7_keepSet_1 v1) M))
  · refine RG.st 10 (congrFun (congrFun b_X7_keepSet_2 v1) M) ?_
    refine RG.ite (fun h2 => RG.brNF (q := 24) h2 rfl ?_) (fun h2 => RG.brNT (q := 35) h2 rfl ?_)
    · exact RG.fin rfl (Rend.run 1 (congrFun (congrFun b_X7_keepSet_3 v1) M))
    · refine RG.st 5 (congrFun (congrFun b_X7_keepSet_4 v1) M) ?_
      have h3 : (inb (M.1 0 2) 30 = true) := inb_keep h2
      refine RG.st 1 (stp_g h3 (congrFun (congrFun b_X7_keepSet_5 v1) M)) ?_
      exact RG.fin rfl (Rend.run 11 (congrFun (congrFun b_X7_keepSet_6 v1) M))
def fn_X7_keepSet : Fn := fun av M => match av with
  | [.ref r0, .long v1] => bif Nat.beq r0 0 then (d_X7_keepSet v1 M) else (none)
  | _ => none
theorem cfg_X7_keepSet : CfgOK RX7 cX7_keepSet (C_X7_keepSet) 6 := ⟨tk_X7_keepSet, csF_nd, flk_X7, (List.forall_mem_cons.mpr ⟨Or.inr ⟨yX7_isFrom, cX7_isFrom, 3, (some .boolean), none, 1, ok_X7_isFrom, by decide, by decide, w_code_Sumsetry_isFrom__III_Z, w_initialized_Sumsetry, ⟨by decide, by decide⟩, Or.inl ⟨rfl, show (parseMethodDescriptor yX7_isFrom.desc).map (fun d => d.parameters.length) = some 3 from by decide +kernel, w_methodLink_Sumsetry_52, w_static_Sumsetry_isFrom__III_Z⟩⟩, fun _ h => absurd h List.not_mem_nil⟩), ink_X7, lgk_X7, by decide +kernel, (fun h hh => absurd hh List.not_mem_nil)⟩
theorem ok_X7_keepSet : OkM csF yX7_keepSet (Cond.code yX7_keepSet cX7_keepSet 3 (some .int)) 6 1 fn_X7_keepSet :=
  OkM_of (own := RX7) (C := C_X7_keepSet) (by decide +kernel) rfl (cfg_X7_keepSet) rfl rfl rfl rfl (by
    intro av M o M' h
    unfold fn_X7_keepSet at h
    split at h
    · rename_i r0 v1
      rcases bif_cs h with ⟨hb, h⟩ | ⟨-, h⟩
      · skip
        have hr0 := hb
        obtain rfl := Nat.eq_of_beq_eq_true hr0
        exact ⟨rfl, Nat.le_of_ble_eq_true rfl, (r_X7_keepSet v1 M) (o, M') h⟩
      · cases h
    · cases h)
def t_X7_set : List (Nat × Instr × Nat) := [(0, .lload_n 1, 1), (1, .lconst 0, 1), (2, .lcmp, 1), (3, .ifCond .eq 14, 3), (6, .aload_n 0, 1), (7, .getfield 10, 3), (10, .lload_n 1, 1), (11, .invokevirtual 88, 3), (14, .ifCond .ne 13, 3), (17, .new 56, 3), (20, .dup, 1), (21, .ldc 92, 2), (23, .invokespecial 60, 3), (26, .athrow, 1), (27, .aload_n 0, 1), (28, .lload_n 1, 1), (29, .invokevirtual 94, 3), (32, .ireturn, 1)]
theorem tk_X7_set : ∀ x ∈ t_X7_set, decode cX7_set x.1 = .ok x.2 := by decide +kernel
def C_X7_set : Cfg := (t_X7_set, csF, fl_X7, [(88, 2, 1, 2, 0, fn_X1_hasAll), (94, 2, 5, 2, 1, fn_X7_keepSet)], in_X7, lg_X7, [(17, "java/lang/IllegalArgumentException", 56, 92, 60, "empty, or what is no element")], [], none, (some .int), 1)
set_option maxRecDepth 100000 in
theorem b_X7_set_0 : (fun (v1 : Int64) (M : Mem) => run C_X7_set 4 (0, [some (.ref 0), some (.long v1), none], [], M, 0)) = (fun (v1 : Int64) (M : Mem) => some (.inl ((br (decide ((lg_cmp v1 (0 : Int64)) = 0)) 3 3 (14)), [some (.ref 0), some (.long v1), none], [], M, 0))) := by rfl
set_option maxRecDepth 100000 in
theorem b_X7_set_1 : (fun (v1 : Int64) (M : Mem) => run C_X7_set 1 (17, [some (.ref 0), some (.long v1), none], [], M, 0)) = (fun (v1 : Int64) (M : Mem) => some (.inr (.inr "java/lang/IllegalArgumentException", M, 1))) := by rfl
set_option maxRecDepth 100000 in
theorem b_X7_set_2 : (fun (v1 : Int64) (M : Mem) => run C_X7_set 5 (6, [some (.ref 0), some (.long v1), none], [], M, 0)) = (fun (v1 : Int64) (M : Mem) => some (.inl ((br (!decide ((d_X1_hasAll v1 M) = 0)) 14 3 (13)), [some (.ref 0), some (.long v1), none], [], M, 0))) := by rfl
set_option maxRecDepth 100000 in
theorem b_X7_set_3 : (fun (v1 : Int64) (M : Mem) => run C_X7_set 1 (17, [some (.ref 0), some (.long v1), none], [], M, 0)) = (fun (v1 : Int64) (M : Mem) => some (.inr (.inr "java/lang/IllegalArgumentException", M, 1))) := by rfl
set_option maxRecDepth 100000 in
theorem b_X7_set_4 : (fun (v1 : Int64) (M : Mem) => run C_X7_set 2 (27, [some (.ref 0), some (.long v1), none], [], M, 0)) = (fun (v1 : Int64) (M : Mem) => some (.inl (29, [some (.ref 0), some (.long v1), none], [.long v1, .ref 0], M, 0))) := by rfl
set_option maxRecDepth 100000 in
theorem b_X7_set_5 : (fun (v1 : Int64) (w2 : Int32) (M1 : Mem) => run C_X7_set 1 (32, [some (.ref 0), some (.long v1), none], [.int w2], M1, 1)) = (fun (v1 : Int64) (w2 : Int32) (M1 : Mem) => some (.inr (.inl (some (.int w2)), M1, 1))) := by rfl
def d_X7_set (v1 : Int64) (M : Mem) : Option (Res × Mem) := (if (lg_cmp v1 (0 : Int64)) = 0 then some (.inr "java/lang/IllegalArgumentException", M) else (if (d_X1_hasAll v1 M) = 0 then some (.inr "java/lang/IllegalArgumentException", M) else (onI (d_X7_keepSet v1 M) (fun w2 M1 => some (.inl (some (.int w2)), M1)) (fun r => some r))))
set_option maxHeartbeats 2000000 in
theorem r_X7_set (v1 : Int64) (M : Mem) : RG C_X7_set (0, [some (.ref 0), some (.long v1), none], [], M, 0) (d_X7_set v1 M) (fun r => .inr r) := by
  unfold d_X7_set
  refine RG.st 4 (congrFun (congrFun b_X7_set_0 v1) M) ?_
  refine RG.ite (fun h1 => RG.brT (q := 17) h1 rfl ?_) (fun h1 => RG.brF (q := 6) h1 rfl ?_)
  · exact RG.fin rfl (Rend.run 1 (congrFun (congrFun b_X7_set_1 v1) M))
  · refine RG.st 5 (congrFun (congrFun b_X7_set_2 v1) M) ?_
    refine RG.ite (fun h2 => RG.brNF (q := 17) h2 rfl ?_) (fun h2 => RG.brNT (q := 27) h2 rfl ?_)
    · exact RG.fin rfl (Rend.run 1 (congrFun (congrFun b_X7_set_3 v1) M))
    · refine RG.st 2 (congrFun (congrFun b_X7_set_4 v1) M) ?_
      refine RG.callI (fun w2 M1 h3 => RG.st 1 (run_callV (v := (some (.int w2))) rfl rfl rfl rfl rfl h3) ?_) (fun E M1 h3 => RG.fin rfl (Rend.run 1 (run_callVx rfl rfl rfl rfl rfl h3 rfl)))
      show RG C_X7_set (32, [some (.ref 0), some (.long v1), none], [.int w2], M1, 1) _ _
      exact RG.fin rfl (Rend.run 1 (congrFun (congrFun (congrFun b_X7_set_5 v1) w2) M1))
def fn_X7_set : Fn := fun av M => match av with
  | [.ref r0, .long v1] => bif Nat.beq r0 0 then (d_X7_set v1 M) else (none)
  | _ => none
theorem cfg_X7_set : CfgOK RX7 cX7_set (C_X7_set) 7 := ⟨tk_X7_set, csF_nd, flk_X7, (List.forall_mem_cons.mpr ⟨Or.inr ⟨yX1_hasAll, cX1_hasAll, 3, (some .boolean), none, 1, ok_X1_hasAll, by decide, by decide, w_code_Sumsetry_Group_hasAll__J_Z, w_initialized_Sumsetry_Group, ⟨by decide, by decide⟩, Or.inr (Or.inr ⟨rfl, rfl, show (parseMethodDescriptor yX1_hasAll.desc).map (fun d => d.parameters.length + 1) = some 2 from by decide +kernel, w_methodLink_Sumsetry_88, w_instanceMethod_Sumsetry_Group_hasAll__J_Z, w_selects_Sumsetry_Group_hasAll__J_Z, ⟨_, rfl, rfl⟩⟩)⟩,
    List.forall_mem_cons.mpr ⟨Or.inr ⟨yX7_keepSet, cX7_keepSet, 3, (some .int), none, 6, ok_X7_keepSet, by decide, by decide, w_code_Sumsetry_keepSet__J_I, w_initialized_Sumsetry, ⟨by decide, by decide⟩, Or.inr (Or.inr ⟨rfl, rfl, show (parseMethodDescriptor yX7_keepSet.desc).map (fun d => d.parameters.length + 1) = some 2 from by decide +kernel, w_methodLink_Sumsetry_94, w_instanceMethod_Sumsetry_keepSet__J_I, w_selects_Sumsetry_keepSet__J_I, ⟨_, rfl, rfl⟩⟩)⟩, fun _ h => absurd h List.not_mem_nil⟩⟩), ink_X7, lgk_X7, by decide +kernel, (fun h hh => absurd hh List.not_mem_nil)⟩
theorem ok_X7_set : OkM csF yX7_set (Cond.code yX7_set cX7_set 3 (some .int)) 7 1 fn_X7_set :=
  OkM_of (own := RX7) (C := C_X7_set) (by decide +kernel) rfl (cfg_X7_set) rfl rfl rfl rfl (by
    intro av M o M' h
    unfold fn_X7_set at h
    split at h
    · rename_i r0 v1
      rcases bif_cs h with ⟨hb, h⟩ | ⟨-, h⟩
      · skip
        have hr0 := hb
        obtain rfl := Nat.eq_of_beq_eq_true hr0
        exact ⟨rfl, Nat.le_of_ble_eq_true rfl, (r_X7_set v1 M) (o, M') h⟩
      · cases h
    · cases h)
def t_X7_needSet : List (Nat × Instr × Nat) := [(0, .iload_n 1, 1), (1, .ifCond .lt 11, 3), (4, .iload_n 1, 1), (5, .aload_n 0, 1), (6, .getfield 20, 3), (9, .if_icmp .lt 14, 3), (12, .new 256, 3), (15, .dup, 1), (16, .ldc_w 258, 3), (19, .invokespecial 260, 3), (22, .athrow, 1), (23, .return_, 1)]
theorem tk_X7_needSet : ∀ x ∈ t_X7_needSet, decode cX7_needSet x.1 = .ok x.2 := by decide +kernel
def C_X7_needSet : Cfg := (t_X7_needSet, csF, fl_X7, [], in_X7, lg_X7, [(12, "java/lang/IndexOutOfBoundsException", 256, 258, 260, "no such set")], [], none, none, 1)
set_option maxRecDepth 100000 in
theorem b_X7_needSet_0 : (fun (v1 : Int32) (M : Mem) => run C_X7_needSet 2 (0, [some (.ref 0), some (.int v1)], [], M, 0)) = (fun (v1 : Int32) (M : Mem) => some (.inl ((br (decide (v1 < 0)) 1 3 (11)), [some (.ref 0), some (.int v1)], [], M, 0))) := by rfl
set_option maxRecDepth 100000 in
theorem b_X7_needSet_1 : (fun (v1 : Int32) (M : Mem) => run C_X7_needSet 1 (12, [some (.ref 0), some (.int v1)], [], M, 0)) = (fun (v1 : Int32) (M : Mem) => some (.inr (.inr "java/lang/IndexOutOfBoundsException", M, 1))) := by rfl
set_option maxRecDepth 100000 in
theorem b_X7_needSet_2 : (fun (v1 : Int32) (M : Mem) => run C_X7_needSet 4 (4, [some (.ref 0), some (.int v1)], [], M, 0)) = (fun (v1 : Int32) (M : Mem) => some (.inl ((br (decide (v1 < (M.1 0 2))) 9 3 (14)), [some (.ref 0), some (.int v1)], [], M, 0))) := by rfl
set_option maxRecDepth 100000 in
theorem b_X7_needSet_3 : (fun (v1 : Int32) (M : Mem) => run C_X7_needSet 1 (23, [some (.ref 0), some (.int v1)], [], M, 0)) = (fun (v1 : Int32) (M : Mem) => some (.inr (.inl none, M, 0))) := by rfl
set_option maxRecDepth 100000 in
theorem b_X7_needSet_4 : (fun (v1 : Int32) (M : Mem) => run C_X7_needSet 1 (12, [some (.ref 0), some (.int v1)], [], M, 0)) = (fun (v1 : Int32) (M : Mem) => some (.inr (.inr "java/lang/IndexOutOfBoundsException", M, 1))) := by rfl
def d_X7_needSet (v1 : Int32) (M : Mem) : Option (Res × Mem) := (if v1 < 0 then some (.inr "java/lang/IndexOutOfBoundsException", M) else (if v1 < (M.1 0 2) then some (.inl none, M) else some (.inr "java/lang/IndexOutOfBoundsException", M)))
set_option maxHeartbeats 2000000 in
theorem r_X7_needSet (v1 : Int32) (M : Mem) : RG C_X7_needSet (0, [some (.ref 0), some (.int v1)], [], M, 0) (d_X7_needSet v1 M) (fun r => .inr r) := by
  unfold d_X7_needSet
  refine RG.st 2 (congrFun (congrFun b_X7_needSet_0 v1) M) ?_
  refine RG.ite (fun h1 => RG.brT (q := 12) h1 rfl ?_) (fun h1 => RG.brF (q := 4) h1 rfl ?_)
  · exact RG.fin rfl (Rend.run 1 (congrFun (congrFun b_X7_needSet_1 v1) M))
  · refine RG.st 4 (congrFun (congrFun b_X7_needSet_2 v1) M) ?_
    refine RG.ite (fun h2 => RG.brT (q := 23) h2 rfl ?_) (fun h2 => RG.brF (q := 12) h2 rfl ?_)
    · exact RG.fin rfl (Rend.run 1 (congrFun (congrFun b_X7_needSet_3 v1) M))
    · exact RG.fin rfl (Rend.run 1 (congrFun (congrFun b_X7_needSet_4 v1) M))
def fn_X7_needSet : Fn := fun av M => match av with
  | [.ref r0, .int v1] => bif Nat.beq r0 0 then (d_X7_needSet v1 M) else (none)
  | _ => none
theorem cfg_X7_needSet : CfgOK RX7 cX7_needSet (C_X7_needSet) 6 := ⟨tk_X7_needSet, csF_nd, flk_X7, (fun e h => absurd h List.not_mem_nil), ink_X7, lgk_X7, by decide +kernel, (fun h hh => absurd hh List.not_mem_nil)⟩
theorem ok_X7_needSet : OkM csF yX7_needSet (Cond.code yX7_needSet cX7_needSet 2 none) 6 1 fn_X7_needSet :=
  OkM_of (own := RX7) (C := C_X7_needSet) (by decide +kernel) rfl (cfg_X7_needSet) rfl rfl rfl rfl (by
    intro av M o M' h
    unfold fn_X7_needSet at h
    split at h
    · rename_i r0 v1
      rcases bif_cs h with ⟨hb, h⟩ | ⟨-, h⟩
      · skip
        have hr0 := hb
        obtain rfl := Nat.eq_of_beq_eq_true hr0
        exact ⟨rfl, Nat.le_of_ble_eq_true rfl, (r_X7_needSet v1 M) (o, M') h⟩
      · cases h
    · cases h)
def t_X7_bitsOf : List (Nat × Instr × Nat) := [(0, .iload_n 1, 1), (1, .ifCond .lt 21, 3), (4, .iload_n 1, 1), (5, .aload_n 0, 1), (6, .getfield 16, 3), (9, .arraylength, 1), (10, .if_icmp .ge 12, 3), (13, .aload_n 0, 1), (14, .getfield 16, 3), (17, .iload_n 1, 1), (18, .laload, 1), (19, .goto 4, 3), (22, .lconst 0, 1), (23, .lreturn, 1)]
theorem tk_X7_bitsOf : ∀ x ∈ t_X7_bitsOf, decode cX7_bitsOf x.1 = .ok x.2 := by decide +kernel
def C_X7_bitsOf : Cfg := (t_X7_bitsOf, csF, fl_X7, [], in_X7, lg_X7, [], [], none, (some .long), 0)
set_option maxRecDepth 100000 in
theorem b_X7_bitsOf_0 : (fun (v1 : Int32) (M : Mem) => run C_X7_bitsOf 2 (0, [some (.ref 0), some (.int v1)], [], M, 0)) = (fun (v1 : Int32) (M : Mem) => some (.inl ((br (decide (v1 < 0)) 1 3 (21)), [some (.ref 0), some (.int v1)], [], M, 0))) := by rfl
set_option maxRecDepth 100000 in
theorem b_X7_bitsOf_1 : (fun (v1 : Int32) (M : Mem) => run C_X7_bitsOf 2 (22, [some (.ref 0), some (.int v1)], [], M, 0)) = (fun (v1 : Int32) (M : Mem) => some (.inr (.inl (some (.long (0 : Int64))), M, 0))) := by rfl
set_option maxRecDepth 100000 in
theorem b_X7_bitsOf_2 : (fun (v1 : Int32) (M : Mem) => run C_X7_bitsOf 5 (4, [some (.ref 0), some (.int v1)], [], M, 0)) = (fun (v1 : Int32) (M : Mem) => some (.inl ((br (!decide (v1 < (30 : Int32))) 10 3 (12)), [some (.ref 0), some (.int v1)], [], M, 0))) := by rfl
set_option maxRecDepth 100000 in
theorem b_X7_bitsOf_3 : (fun (v1 : Int32) (M : Mem) => run C_X7_bitsOf 3 (13, [some (.ref 0), some (.int v1)], [], M, 0)) = (fun (v1 : Int32) (M : Mem) => some (.inl (18, [some (.ref 0), some (.int v1)], [.int v1, .ref 1], M, 0))) := by rfl
set_option maxRecDepth 100000 in
theorem b_X7_bitsOf_4 : (fun (v1 : Int32) (M : Mem) => stp C_X7_bitsOf (18, [some (.ref 0), some (.int v1)], [.int v1, .ref 1], M, 0)) = (fun (v1 : Int32) (M : Mem) => (if inb v1 30 = true then some (.inl (19, [some (.ref 0), some (.int v1)], [.long (M.2 1 (ix v1))], M, 0)) else none)) := by rfl
set_option maxRecDepth 100000 in
theorem b_X7_bitsOf_5 : (fun (v1 : Int32) (M : Mem) => run C_X7_bitsOf 2 (19, [some (.ref 0), some (.int v1)], [.long (M.2 1 (ix v1))], M, 0)) = (fun (v1 : Int32) (M : Mem) => some (.inr (.inl (some (.long (M.2 1 (ix v1)))), M, 0))) := by rfl
set_option maxRecDepth 100000 in
theorem b_X7_bitsOf_6 : (fun (v1 : Int32) (M : Mem) => run C_X7_bitsOf 2 (22, [some (.ref 0), some (.int v1)], [], M, 0)) = (fun (v1 : Int32) (M : Mem) => some (.inr (.inl (some (.long (0 : Int64))), M, 0))) := by rfl
def d_X7_bitsOf (v1 : Int32) (M : Mem) : Int64 := (if v1 < 0 then (0 : Int64) else (if v1 < (30 : Int32) then (M.2 1 (ix v1)) else (0 : Int64)))
set_option maxHeartbeats 2000000 in
theorem r_X7_bitsOf (v1 : Int32) (M : Mem) : RG C_X7_bitsOf (0, [some (.ref 0), some (.int v1)], [], M, 0) (some (d_X7_bitsOf v1 M)) (fun v => .inr (.inl (some (.long v)), M)) := by
  unfold d_X7_bitsOf
  refine RG.st 2 (congrFun (congrFun b_X7_bitsOf_0 v1) M) ?_
  refine RG.ites (fun h1 => RG.brT (q := 22) h1 rfl ?_) (fun h1 => RG.brF (q := 4) h1 rfl ?_)
  · exact RG.fin rfl (Rend.run 2 (congrFun (congrFun b_X7_bitsOf_1 v1) M))
  · refine RG.st 5 (congrFun (congrFun b_X7_bitsOf_2 v1) M) ?_
    refine RG.ites (fun h2 => RG.brNF (q := 13) h2 rfl ?_) (fun h2 => RG.brNT (q := 22) h2 rfl ?_)
    · refine RG.st 3 (congrFun (congrFun b_X7_bitsOf_3 v1) M) ?_
      have h3 : (inb v1 30 = true) := inb_of h1 h2 (by decide) (by decide)
      refine RG.st 1 (stp_g h3 (congrFun (congrFun b_X7_bitsOf_4 v1) M)) ?_
      exact RG.fin rfl (Rend.run 2 (congrFun (congrFun b_X7_bitsOf_5 v1) M))
    · exact RG.fin rfl (Rend.run 2 (congrFun (congrFun b_X7_bitsOf_6 v1) M))
def fn_X7_bitsOf : Fn := fun av M => match av with
  | [.ref r0, .int v1] => bif Nat.beq r0 0 then some (.inl (some (.long (d_X7_bitsOf v1 M))), M) else (none)
  | _ => none
theorem cfg_X7_bitsOf : CfgOK RX7 cX7_bitsOf (C_X7_bitsOf) 1 := ⟨tk_X7_bitsOf, csF_nd, flk_X7, (fun e h => absurd h List.not_mem_nil), ink_X7, lgk_X7, fun e h => absurd h List.not_mem_nil, (fun h hh => absurd hh List.not_mem_nil)⟩
theorem ok_X7_bitsOf : OkM csF yX7_bitsOf (Cond.code yX7_bitsOf cX7_bitsOf 2 (some .long)) 1 0 fn_X7_bitsOf :=
  OkM_of (own := RX7) (C := C_X7_bitsOf) (by decide +kernel) rfl (cfg_X7_bitsOf) rfl rfl rfl rfl (by
    intro av M o M' h
    unfold fn_X7_bitsOf at h
    split at h
    · rename_i r0 v1
      rcases bif_cs h with ⟨hb, h⟩ | ⟨-, h⟩
      · skip
        have hr0 := hb
        obtain rfl := Nat.eq_of_beq_eq_true hr0
        cases h
        exact ⟨rfl, Nat.le_of_ble_eq_true rfl, (r_X7_bitsOf v1 M) _ rfl⟩
      · cases h
    · cases h)
def t_X7_combined : List (Nat × Instr × Nat) := [(0, .iload_n 1, 1), (1, .tableswitch 78 0 4 #[35, 46, 57, 68, 73], 35), (36, .aload_n 0, 1), (37, .getfield 10, 3), (40, .lload_n 2, 1), (41, .lload 4, 2), (43, .invokevirtual 138, 3), (46, .lreturn, 1), (47, .aload_n 0, 1), (48, .getfield 10, 3), (51, .lload_n 2, 1), (52, .lload 4, 2), (54, .invokevirtual 147, 3), (57, .lreturn, 1), (58, .aload_n 0, 1), (59, .getfield 10, 3), (62, .lload_n 2, 1), (63, .lload 4, 2), (65, .invokevirtual 275, 3), (68, .lreturn, 1), (69, .lload_n 2, 1), (70, .lload 4, 2), (72, .land, 1), (73, .lreturn, 1), (74, .lload_n 2, 1), (75, .lload 4, 2), (77, .lor, 1), (78, .lreturn, 1), (79, .lload_n 2, 1), (80, .lload 4, 2), (82, .ldc2_w 159, 3), (85, .lxor, 1), (86, .land, 1), (87, .lreturn, 1)]
theorem tk_X7_combined : ∀ x ∈ t_X7_combined, decode cX7_combined x.1 = .ok x.2 := by decide +kernel
def C_X7_combined : Cfg := (t_X7_combined, csF, fl_X7, [(138, 2, 1, 3, 0, fn_X1_sumOf), (147, 2, 1, 3, 0, fn_X1_differenceOf), (275, 2, 1, 3, 0, fn_X1_unlikeSumOf)], in_X7, lg_X7, [], [], none, (some .long), 0)
set_option maxRecDepth 100000 in
theorem b_X7_combined_0 : (fun (v1 : Int32) (v2 : Int64) (v4 : Int64) (M : Mem) => run C_X7_combined 1 (0, [some (.ref 0), some (.int v1), some (.long v2), none, some (.long v4), none], [], M, 0)) = (fun (v1 : Int32) (v2 : Int64) (v4 : Int64) (M : Mem) => some (.inl (1, [some (.ref 0), some (.int v1), some (.long v2), none, some (.long v4), none], [.int v1], M, 0))) := by rfl
set_option maxRecDepth 100000 in
theorem b_X7_combined_1 : (fun (v1 : Int32) (v2 : Int64) (v4 : Int64) (M : Mem) => run C_X7_combined 1 (1, [some (.ref 0), some (.int v1), some (.long v2), none, some (.long v4), none], [.int (0 : Int32)], M, 0)) = (fun (v1 : Int32) (v2 : Int64) (v4 : Int64) (M : Mem) => some (.inl (36, [some (.ref 0), some (.int v1), some (.long v2), none, some (.long v4), none], [], M, 0))) := by rfl
set_option maxRecDepth 100000 in
theorem b_X7_combined_2 : (fun (v1 : Int32) (v2 : Int64) (v4 : Int64) (M : Mem) => run C_X7_combined 4 (36, [some (.ref 0), some (.int v1), some (.long v2), none, some (.long v4), none], [], M, 0)) = (fun (v1 : Int32) (v2 : Int64) (v4 : Int64) (M : Mem) => some (.inl (43, [some (.ref 0), some (.int v1), some (.long v2), none, some (.long v4), none], [.long v4, .long v2, .ref 2], M, 0))) := by rfl
set_option maxRecDepth 100000 in
theorem b_X7_combined_3 : (fun (v1 : Int32) (v2 : Int64) (v4 : Int64) (M : Mem) (w1 : Int64) => run C_X7_combined 1 (46, [some (.ref 0), some (.int v1), some (.long v2), none, some (.long v4), none], [.long w1], M, 0)) = (fun (v1 : Int32) (v2 : Int64) (v4 : Int64) (M : Mem) (w1 : Int64) => some (.inr (.inl (some (.long w1)), M, 0))) := by rfl
set_option maxRecDepth 100000 in
theorem b_X7_combined_4 : (fun (v1 : Int32) (v2 : Int64) (v4 : Int64) (M : Mem) => run C_X7_combined 1 (1, [some (.ref 0), some (.int v1), some (.long v2), none, some (.long v4), none], [.int (1 : Int32)], M, 0)) = (fun (v1 : Int32) (v2 : Int64) (v4 : Int64) (M : Mem) => some (.inl (47, [some (.ref 0), some (.int v1), some (.long v2), none, some (.long v4), none], [], M, 0))) := by rfl
set_option maxRecDepth 100000 in
theorem b_X7_combined_5 : (fun (v1 : Int32) (v2 : Int64) (v4 : Int64) (M : Mem) => run C_X7_combined 4 (47, [some (.ref 0), some (.int v1), some (.long v2), none, some (.long v4), none], [], M, 0)) = (fun (v1 : Int32) (v2 : Int64) (v4 : Int64) (M : Mem) => some (.inl (54, [some (.ref 0), some (.int v1), some (.long v2), none, some (.long v4), none], [.long v4, .long v2, .ref 2], M, 0))) := by rfl
set_option maxRecDepth 100000 in
theorem b_X7_combined_6 : (fun (v1 : Int32) (v2 : Int64) (v4 : Int64) (M : Mem) (w2 : Int64) => run C_X7_combined 1 (57, [some (.ref 0), some (.int v1), some (.long v2), none, some (.long v4), none], [.long w2], M, 0)) = (fun (v1 : Int32) (v2 : Int64) (v4 : Int64) (M : Mem) (w2 : Int64) => some (.inr (.inl (some (.long w2)), M, 0))) := by rfl
set_option maxRecDepth 100000 in
theorem b_X7_combined_7 : (fun (v1 : Int32) (v2 : Int64) (v4 : Int64) (M : Mem) => run C_X7_combined 1 (1, [some (.ref 0), some (.int v1), some (.long v2), none, some (.long v4), none], [.int (2 : Int32)], M, 0)) = (fun (v1 : Int32) (v2 : Int64) (v4 : Int64) (M : Mem) => some (.inl (58, [some (.ref 0), some (.int v1), some (.long v2), none, some (.long v4), none], [], M, 0))) := by rfl
set_option maxRecDepth 100000 in
theorem b_X7_combined_8 : (fun (v1 : Int32) (v2 : Int64) (v4 : Int64) (M : Mem) => run C_X7_combined 4 (58, [some (.ref 0), some (.int v1), some (.long v2), none, some (.long v4), none], [], M, 0)) = (fun (v1 : Int32) (v2 : Int64) (v4 : Int64) (M : Mem) => some (.inl (65, [some (.ref 0), some (.int v1), some (.long v2), none, some (.long v4), none], [.long v4, .long v2, .ref 2], M, 0))) := by rfl
set_option maxRecDepth 100000 in
theorem b_X7_combined_9 : (fun (v1 : Int32) (v2 : Int64) (v4 : Int64) (M : Mem) (w3 : Int64) => run C_X7_combined 1 (68, [some (.ref 0), some (.int v1), some (.long v2), none, some (.long v4), none], [.long w3], M, 0)) = (fun (v1 : Int32) (v2 : Int64) (v4 : Int64) (M : Mem) (w3 : Int64) => some (.inr (.inl (some (.long w3)), M, 0))) := by rfl
set_option maxRecDepth 100000 in
theorem b_X7_combined_10 : (fun (v1 : Int32) (v2 : Int64) (v4 : Int64) (M : Mem) => run C_X7_combined 1 (1, [some (.ref 0), some (.int v1), some (.long v2), none, some (.long v4), none], [.int (3 : Int32)], M, 0)) = (fun (v1 : Int32) (v2 : Int64) (v4 : Int64) (M : Mem) => some (.inl (69, [some (.ref 0), some (.int v1), some (.long v2), none, some (.long v4), none], [], M, 0))) := by rfl
set_option maxRecDepth 100000 in
theorem b_X7_combined_11 : (fun (v1 : Int32) (v2 : Int64) (v4 : Int64) (M : Mem) => run C_X7_combined 4 (69, [some (.ref 0), some (.int v1), some (.long v2), none, some (.long v4), none], [], M, 0)) = (fun (v1 : Int32) (v2 : Int64) (v4 : Int64) (M : Mem) => some (.inr (.inl (some (.long (v2 &&& v4))), M, 0))) := by rfl
set_option maxRecDepth 100000 in
theorem b_X7_combined_12 : (fun (v1 : Int32) (v2 : Int64) (v4 : Int64) (M : Mem) => run C_X7_combined 1 (1, [some (.ref 0), some (.int v1), some (.long v2), none, some (.long v4), none], [.int (4 : Int32)], M, 0)) = (fun (v1 : Int32) (v2 : Int64) (v4 : Int64) (M : Mem) => some (.inl (74, [some (.ref 0), some (.int v1), some (.long v2), none, some (.long v4), none], [], M, 0))) := by rfl
set_option maxRecDepth 100000 in
theorem b_X7_combined_13 : (fun (v1 : Int32) (v2 : Int64) (v4 : Int64) (M : Mem) => run C_X7_combined 4 (74, [some (.ref 0), some (.int v1), some (.long v2), none, some (.long v4), none], [], M, 0)) = (fun (v1 : Int32) (v2 : Int64) (v4 : Int64) (M : Mem) => some (.inr (.inl (some (.long (v2 ||| v4))), M, 0))) := by rfl
set_option maxRecDepth 100000 in
theorem b_X7_combined_14 : (fun (v1 : Int32) (v2 : Int64) (v4 : Int64) (M : Mem) => run C_X7_combined 6 (79, [some (.ref 0), some (.int v1), some (.long v2), none, some (.long v4), none], [], M, 0)) = (fun (v1 : Int32) (v2 : Int64) (v4 : Int64) (M : Mem) => some (.inr (.inl (some (.long (v2 &&& (v4 ^^^ (-1 : Int64))))), M, 0))) := by rfl
def d_X7_combined (v1 : Int32) (v2 : Int64) (v4 : Int64) (M : Mem) : Option Int64 := (if v1 = 0 then ((d_X1_sumOf v2 v4 M).bind fun w1 => some w1) else (if v1 = 1 then ((d_X1_differenceOf v2 v4 M).bind fun w2 => some w2) else (if v1 = 2 then ((d_X1_unlikeSumOf v2 v4 M).bind fun w3 => some w3) else (if v1 = 3 then some (v2 &&& v4) else (if v1 = 4 then some (v2 ||| v4) else (some (v2 &&& (v4 ^^^ (-1 : Int64)))))))))
set_option maxHeartbeats 2000000 in
theorem r_X7_combined (v1 : Int32) (v2 : Int64) (v4 : Int64) (M : Mem) : RG C_X7_combined (0, [some (.ref 0), some (.int v1), some (.long v2), none, some (.long v4), none], [], M, 0) (d_X7_combined v1 v2 v4 M) (fun v => .inr (.inl (some (.long v)), M)) := by
  unfold d_X7_combined
  refine RG.st 1 (congrFun (congrFun (congrFun (congrFun b_X7_combined_0 v1) v2) v4) M) ?_
  refine RG.ite (fun h1 => RG.eqI h1 (RG.st 1 (congrFun (congrFun (congrFun (congrFun b_X7_combined_1 v1) v2) v4) M) ?_)) (fun h1 => ?_)
  · refine RG.st 4 (congrFun (congrFun (congrFun (congrFun b_X7_combined_2 v1) v2) v4) M) ?_
    refine RG.bind (fun w1 h2 => RG.st 1 (run_callV (v := some (.long w1)) rfl rfl rfl rfl rfl (bindL h2)) ?_)
    show RG C_X7_combined (46, [some (.ref 0), some (.int v1), some (.long v2), none, some (.long v4), none], [.long w1], M, 0) _ _
    exact RG.fin rfl (Rend.run 1 (congrFun (congrFun (congrFun (congrFun (congrFun b_X7_combined_3 v1) v2) v4) M) w1))
  refine RG.ite (fun h3 => RG.eqI h3 (RG.st 1 (congrFun (congrFun (congrFun (congrFun b_X7_combined_4 v1) v2) v4) M) ?_)) (fun h3 => ?_)
  · refine RG.st 4 (congrFun (congrFun (congrFun (congrFun b_X7_combined_5 v1) v2) v4) M) ?_
    refine RG.bind (fun w2 h4 => RG.st 1 (run_callV (v := some (.long w2)) rfl rfl rfl rfl rfl (bindL h4)) ?_)
    show RG C_X7_combined (57, [some (.ref 0), some (.int v1), some (.long v2), none, some (.long v4), none], [.long w2], M, 0) _ _
    exact RG.fin rfl (Rend.run 1 (congrFun (congrFun (congrFun (congrFun (congrFun b_X7_combined_6 v1) v2) v4) M) w2))
  refine RG.ite (fun h5 => RG.eqI h5 (RG.st 1 (congrFun (congrFun (congrFun (congrFun b_X7_combined_7 v1) v2) v4) M) ?_)) (fun h5 => ?_)
  · refine RG.st 4 (congrFun (congrFun (congrFun (congrFun b_X7_combined_8 v1) v2) v4) M) ?_
    refine RG.bind (fun w3 h6 => RG.st 1 (run_callV (v := some (.long w3)) rfl rfl rfl rfl rfl (bindL h6)) ?_)
    show RG C_X7_combined (68, [some (.ref 0), some (.int v1), some (.long v2), none, some (.long v4), none], [.long w3], M, 0) _ _
    exact RG.fin rfl (Rend.run 1 (congrFun (congrFun (congrFun (congrFun (congrFun b_X7_combined_9 v1) v2) v4) M) w3))
  refine RG.ite (fun h7 => RG.eqI h7 (RG.st 1 (congrFun (congrFun (congrFun (congrFun b_X7_combined_10 v1) v2) v4) M) ?_)) (fun h7 => ?_)
  · exact RG.fin rfl (Rend.run 4 (congrFun (congrFun (congrFun (congrFun b_X7_combined_11 v1) v2) v4) M))
  refine RG.ite (fun h8 => RG.eqI h8 (RG.st 1 (congrFun (congrFun (congrFun (congrFun b_X7_combined_12 v1) v2) v4) M) ?_)) (fun h8 => ?_)
  · exact RG.fin rfl (Rend.run 4 (congrFun (congrFun (congrFun (congrFun b_X7_combined_13 v1) v2) v4) M))
  refine RG.st 1 (run_tsw (q := 79) rfl rfl (tsw_out (by have e0 : v1.toInt ≠ 0 := fun e => h1 (Int32.toInt_inj.mp (e.trans (by decide))); have e1 : v1.toInt ≠ 1 := fun e => h3 (Int32.toInt_inj.mp (e.trans (by decide))); have e2 : v1.toInt ≠ 2 := fun e => h5 (Int32.toInt_inj.mp (e.trans (by decide))); have e3 : v1.toInt ≠ 3 := fun e => h7 (Int32.toInt_inj.mp (e.trans (by decide))); have e4 : v1.toInt ≠ 4 := fun e => h8 (Int32.toInt_inj.mp (e.trans (by decide))); omega) rfl rfl)) ?_
  exact RG.fin rfl (Rend.run 6 (congrFun (congrFun (congrFun (congrFun b_X7_combined_14 v1) v2) v4) M))
def fn_X7_combined : Fn := fun av M => match av with
  | [.ref r0, .int v1, .long v2, .long v4] => bif Nat.beq r0 0 then (d_X7_combined v1 v2 v4 M).bind fun v => some (.inl (some (.long v)), M) else (none)
  | _ => none
theorem cfg_X7_combined : CfgOK RX7 cX7_combined (C_X7_combined) 6 := ⟨tk_X7_combined, csF_nd, flk_X7, (List.forall_mem_cons.mpr ⟨Or.inr ⟨yX1_sumOf, cX1_sumOf, 10, (some .long), none, 4, ok_X1_sumOf, by decide, by decide, w_code_Sumsetry_Group_sumOf__JJ_J, w_initialized_Sumsetry_Group, ⟨by decide, by decide⟩, Or.inr (Or.inr ⟨rfl, rfl, show (parseMethodDescriptor yX1_sumOf.desc).map (fun d => d.parameters.length + 1) = some 3 from by decide +kernel, w_methodLink_Sumsetry_138, w_instanceMethod_Sumsetry_Group_sumOf__JJ_J, w_selects_Sumsetry_Group_sumOf__JJ_J, ⟨_, rfl, rfl⟩⟩)⟩,
    List.forall_mem_cons.mpr ⟨Or.inr ⟨yX1_differenceOf, cX1_differenceOf, 5, (some .long), none, 5, ok_X1_differenceOf, by decide, by decide, w_code_Sumsetry_Group_differenceOf__JJ_J, w_initialized_Sumsetry_Group, ⟨by decide, by decide⟩, Or.inr (Or.inr ⟨rfl, rfl, show (parseMethodDescriptor yX1_differenceOf.desc).map (fun d => d.parameters.length + 1) = some 3 from by decide +kernel, w_methodLink_Sumsetry_147, w_instanceMethod_Sumsetry_Group_differenceOf__JJ_J, w_selects_Sumsetry_Group_differenceOf__JJ_J, ⟨_, rfl, rfl⟩⟩)⟩,
    List.forall_mem_cons.mpr ⟨Or.inr ⟨yX1_unlikeSumOf, cX1_unlikeSumOf, 8, (some .long), none, 3, ok_X1_unlikeSumOf, by decide, by decide, w_code_Sumsetry_Group_unlikeSumOf__JJ_J, w_initialized_Sumsetry_Group, ⟨by decide, by decide⟩, Or.inr (Or.inr ⟨rfl, rfl, show (parseMethodDescriptor yX1_unlikeSumOf.desc).map (fun d => d.parameters.length + 1) = some 3 from by decide +kernel, w_methodLink_Sumsetry_275, w_instanceMethod_Sumsetry_Group_unlikeSumOf__JJ_J, w_selects_Sumsetry_Group_unlikeSumOf__JJ_J, ⟨_, rfl, rfl⟩⟩)⟩, fun _ h => absurd h List.not_mem_nil⟩⟩⟩), ink_X7, lgk_X7, fun e h => absurd h List.not_mem_nil, (fun h hh => absurd hh List.not_mem_nil)⟩
theorem ok_X7_combined : OkM csF yX7_combined (Cond.code yX7_combined cX7_combined 6 (some .long)) 6 0 fn_X7_combined :=
  OkM_of (own := RX7) (C := C_X7_combined) (by decide +kernel) rfl (cfg_X7_combined) rfl rfl rfl rfl (by
    intro av M o M' h
    unfold fn_X7_combined at h
    split at h
    · rename_i r0 v1 v2 v4
      rcases bif_cs h with ⟨hb, h⟩ | ⟨-, h⟩
      · skip
        have hr0 := hb
        obtain rfl := Nat.eq_of_beq_eq_true hr0
        obtain ⟨w, hw, h⟩ := bind_cs h
        cases h
        exact ⟨rfl, Nat.le_of_ble_eq_true rfl, (r_X7_combined v1 v2 v4 M) w hw⟩
      · cases h
    · cases h)
