/-! methods: X8_sumsOf, X8_sums, X8_orderOf, X8_order, X8_essential -/
def t_X8_sumsOf : List (Nat × Instr × Nat) := [(0, .lload_n 1, 1), (1, .lstore 4, 2), (3, .iconst 1, 1), (4, .istore 6, 2), (6, .iload 6, 2), (8, .iload_n 3, 1), (9, .if_icmp .ge 18, 3), (12, .aload_n 0, 1), (13, .lload 4, 2), (15, .lload_n 1, 1), (16, .invokevirtual 99, 3), (19, .lstore 4, 2), (21, .iinc 6 1, 3), (24, .goto (-18), 3), (27, .lload 4, 2), (29, .lreturn, 1)]
theorem tk_X8_sumsOf : ∀ x ∈ t_X8_sumsOf, decode cX8_sumsOf x.1 = .ok x.2 := by decide +kernel
def C_X8_sumsOf : Cfg := (t_X8_sumsOf, csF, fl_X8, [(99, 2, 6, 3, 0, fn_X8_sumOf)], in_X8, lg_X8, [], [], none, (some .long), 0)
set_option maxRecDepth 100000 in
theorem b_X8_sumsOf_0 : (fun (v1 : Int64) (v3 : Int32) (M : Mem) => run C_X8_sumsOf 4 (0, [some (.ref 19), some (.long v1), none, some (.int v3), none, none, none], [], M, 0)) = (fun (v1 : Int64) (v3 : Int32) (M : Mem) => some (.inl (6, [some (.ref 19), some (.long v1), none, some (.int v3), some (.long v1), none, some (.int (1 : Int32))], [], M, 0))) := by rfl
set_option maxRecDepth 100000 in
theorem b_X8_sumsOf_1 : (fun (v1 : Int64) (v3 : Int32) (M : Mem) (a1 : (Int64 × Int32)) => run C_X8_sumsOf 3 (6, [some (.ref 19), some (.long v1), none, some (.int v3), some (.long a1.1), none, some (.int a1.2)], [], M, 0)) = (fun (v1 : Int64) (v3 : Int32) (M : Mem) (a1 : (Int64 × Int32)) => some (.inl ((br (!decide (a1.2 < v3)) 9 3 (18)), [some (.ref 19), some (.long v1), none, some (.int v3), some (.long a1.1), none, some (.int a1.2)], [], M, 0))) := by rfl
set_option maxRecDepth 100000 in
theorem b_X8_sumsOf_2 : (fun (v1 : Int64) (v3 : Int32) (M : Mem) (a1 : (Int64 × Int32)) => run C_X8_sumsOf 3 (12, [some (.ref 19), some (.long v1), none, some (.int v3), some (.long a1.1), none, some (.int a1.2)], [], M, 0)) = (fun (v1 : Int64) (v3 : Int32) (M : Mem) (a1 : (Int64 × Int32)) => some (.inl (16, [some (.ref 19), some (.long v1), none, some (.int v3), some (.long a1.1), none, some (.int a1.2)], [.long v1, .long a1.1, .ref 19], M, 0))) := by rfl
set_option maxRecDepth 100000 in
theorem b_X8_sumsOf_3 : (fun (v1 : Int64) (v3 : Int32) (M : Mem) (a1 : (Int64 × Int32)) (w1 : Int64) => run C_X8_sumsOf 3 (19, [some (.ref 19), some (.long v1), none, some (.int v3), some (.long a1.1), none, some (.int a1.2)], [.long w1], M, 0)) = (fun (v1 : Int64) (v3 : Int32) (M : Mem) (a1 : (Int64 × Int32)) (w1 : Int64) => some (.inl (6, [some (.ref 19), some (.long v1), none, some (.int v3), some (.long w1), none, some (.int (a1.2 + (1 : Int32)))], [], M, 0))) := by rfl
def g_X8_sumsOf_1 (v1 : Int64) (v3 : Int32) (M : Mem) : Int64 × Int32 → Option ((Int64 × Int32) ⊕ ((Int64 × Int32) ⊕ Int64)) := fun (a1 : Int64 × Int32) => (if a1.2 < v3 then ((d_X8_sumOf a1.1 v1 M).bind fun w1 => some (.inl (w1, (a1.2 + (1 : Int32))))) else some (.inr (.inl (a1.1, a1.2))))
set_option maxHeartbeats 2000000 in
theorem l_X8_sumsOf_1 (v1 : Int64) (v3 : Int32) (M : Mem) : ∀ a1 : Int64 × Int32, RG C_X8_sumsOf ((fun (a1 : Int64 × Int32) => (6, [some (.ref 19), some (.long v1), none, some (.int v3), some (.long a1.1), none, some (.int a1.2)], [], M, 0)) a1) (g_X8_sumsOf_1 v1 v3 M a1) (lpP (fun (a1 : Int64 × Int32) => (6, [some (.ref 19), some (.long v1), none, some (.int v3), some (.long a1.1), none, some (.int a1.2)], [], M, 0)) (fun (a1 : Int64 × Int32) => (27, [some (.ref 19), some (.long v1), none, some (.int v3), some (.long a1.1), none, some (.int a1.2)], [], M, 0)) (fun (v : Int64) => (.inl (some (.long v)), M))) := by
  intro a1
  unfold g_X8_sumsOf_1
  show RG C_X8_sumsOf (6, [some (.ref 19), some (.long v1), none, some (.int v3), some (.long a1.1), none, some (.int a1.2)], [], M, 0) _ _
  refine RG.st 3 (congrFun (congrFun (congrFun (congrFun b_X8_sumsOf_1 v1) v3) M) a1) ?_
  refine RG.ite (fun h1 => RG.brNF (q := 12) h1 rfl ?_) (fun h1 => RG.brNT (q := 27) h1 rfl ?_)
  · refine RG.st 3 (congrFun (congrFun (congrFun (congrFun b_X8_sumsOf_2 v1) v3) M) a1) ?_
    refine RG.bind (fun w1 h2 => RG.st 1 (run_callV (v := some (.long w1)) rfl rfl rfl rfl rfl (bindL h2)) ?_)
    show RG C_X8_sumsOf (19, [some (.ref 19), some (.long v1), none, some (.int v3), some (.long a1.1), none, some (.int a1.2)], [.long w1], M, 0) _ _
    refine RG.st 3 (congrFun (congrFun (congrFun (congrFun (congrFun b_X8_sumsOf_3 v1) v3) M) a1) w1) ?_
    exact RG.to rfl (Rto.refl _)
  · exact RG.to rfl (Rto.refl _)
set_option maxRecDepth 100000 in
theorem b_X8_sumsOf_4 : (fun (v1 : Int64) (v3 : Int32) (M : Mem) (a2 : (Int64 × Int32)) => run C_X8_sumsOf 2 (27, [some (.ref 19), some (.long v1), none, some (.int v3), some (.long a2.1), none, some (.int a2.2)], [], M, 0)) = (fun (v1 : Int64) (v3 : Int32) (M : Mem) (a2 : (Int64 × Int32)) => some (.inr (.inl (some (.long a2.1)), M, 0))) := by rfl
def d_X8_sumsOf (v1 : Int64) (v3 : Int32) (M : Mem) : Option Int64 := (onIt (iter (g_X8_sumsOf_1 v1 v3 M) 20000 (v1, (1 : Int32))) (fun (a2 : Int64 × Int32) => some a2.1) (fun r => some r))
set_option maxHeartbeats 2000000 in
theorem r_X8_sumsOf (v1 : Int64) (v3 : Int32) (M : Mem) : RG C_X8_sumsOf (0, [some (.ref 19), some (.long v1), none, some (.int v3), none, none, none], [], M, 0) (d_X8_sumsOf v1 v3 M) (fun v => .inr (.inl (some (.long v)), M)) := by
  unfold d_X8_sumsOf
  refine RG.st 4 (congrFun (congrFun (congrFun b_X8_sumsOf_0 v1) v3) M) ?_
  refine RG.loop (hd := (fun (a1 : Int64 × Int32) => (6, [some (.ref 19), some (.long v1), none, some (.int v3), some (.long a1.1), none, some (.int a1.2)], [], M, 0))) (ex := (fun (a1 : Int64 × Int32) => (27, [some (.ref 19), some (.long v1), none, some (.int v3), some (.long a1.1), none, some (.int a1.2)], [], M, 0))) (rt := (fun (v : Int64) => (.inl (some (.long v)), M))) (l_X8_sumsOf_1 v1 v3 M) (fun a2 => ?_) (fun r v h => by cases h; rfl)
  show RG C_X8_sumsOf (27, [some (.ref 19), some (.long v1), none, some (.int v3), some (.long a2.1), none, some (.int a2.2)], [], M, 0) _ _
  exact RG.fin rfl (Rend.run 2 (congrFun (congrFun (congrFun (congrFun b_X8_sumsOf_4 v1) v3) M) a2))
def fn_X8_sumsOf : Fn := fun av M => match av with
  | [.ref r0, .long v1, .int v3] => bif Nat.beq r0 19 then (d_X8_sumsOf v1 v3 M).bind fun v => some (.inl (some (.long v)), M) else (none)
  | _ => none
theorem cfg_X8_sumsOf : CfgOK RX8 cX8_sumsOf (C_X8_sumsOf) 5 := ⟨tk_X8_sumsOf, csF_nd, flk_X8, (List.forall_mem_cons.mpr ⟨Or.inr ⟨yX8_sumOf, cX8_sumOf, 5, (some .long), none, 4, ok_X8_sumOf, by decide, by decide, w_code_SumsetryModel_sumOf__JJ_J, w_initialized_SumsetryModel, ⟨by decide, by decide⟩, Or.inr (Or.inr ⟨rfl, rfl, show (parseMethodDescriptor yX8_sumOf.desc).map (fun d => d.parameters.length + 1) = some 3 from by decide +kernel, w_methodLink_SumsetryModel_99, w_instanceMethod_SumsetryModel_sumOf__JJ_J, w_selects_SumsetryModel_sumOf__JJ_J, ⟨_, rfl, rfl⟩⟩)⟩, fun _ h => absurd h List.not_mem_nil⟩), ink_X8, lgk_X8, fun e h => absurd h List.not_mem_nil, (fun h hh => absurd hh List.not_mem_nil)⟩
theorem ok_X8_sumsOf : OkM csF yX8_sumsOf (Cond.code yX8_sumsOf cX8_sumsOf 7 (some .long)) 5 0 fn_X8_sumsOf :=
  OkM_of (own := RX8) (C := C_X8_sumsOf) (by decide +kernel) rfl (cfg_X8_sumsOf) rfl rfl rfl rfl (by
    intro av M o M' h
    unfold fn_X8_sumsOf at h
    split at h
    · rename_i r0 v1 v3
      rcases bif_cs h with ⟨hb, h⟩ | ⟨-, h⟩
      · skip
        have hr0 := hb
        obtain rfl := Nat.eq_of_beq_eq_true hr0
        obtain ⟨w, hw, h⟩ := bind_cs h
        cases h
        exact ⟨rfl, Nat.le_of_ble_eq_true rfl, (r_X8_sumsOf v1 v3 M) w hw⟩
      · cases h
    · cases h)
def t_X8_sums : List (Nat × Instr × Nat) := [(0, .aload_n 0, 1), (1, .aload_n 0, 1), (2, .iload_n 1, 1), (3, .invokevirtual 96, 3), (6, .ifCond .ne 7, 3), (9, .iconst 1, 1), (10, .goto 18, 3), (13, .iload_n 2, 1), (14, .iconst 1, 1), (15, .bipush 100, 2), (17, .invokestatic 53, 3), (20, .ifCond .ne 7, 3), (23, .iconst 2, 1), (24, .goto 4, 3), (27, .iconst 0, 1), (28, .putfield 46, 3), (31, .aload_n 0, 1), (32, .getfield 46, 3), (35, .ifCond .le 7, 3), (38, .lconst 0, 1), (39, .goto 14, 3), (42, .aload_n 0, 1), (43, .aload_n 0, 1), (44, .getfield 16, 3), (47, .iload_n 1, 1), (48, .laload, 1), (49, .iload_n 2, 1), (50, .invokevirtual 121, 3), (53, .lreturn, 1)]
theorem tk_X8_sums : ∀ x ∈ t_X8_sums, decode cX8_sums x.1 = .ok x.2 := by decide +kernel
def C_X8_sums : Cfg := (t_X8_sums, csF, fl_X8, [(53, 0, 6, 3, 0, fn_X8_isIn), (96, 2, 6, 2, 0, fn_X8_isSet), (121, 2, 6, 3, 0, fn_X8_sumsOf)], in_X8, lg_X8, [], [], none, (some .long), 0)
set_option maxRecDepth 100000 in
theorem b_X8_sums_0 : (fun (v1 : Int32) (v2 : Int32) (M : Mem) => run C_X8_sums 5 (0, [some (.ref 19), some (.int v1), some (.int v2)], [], M, 0)) = (fun (v1 : Int32) (v2 : Int32) (M : Mem) => some (.inl ((br (!decide ((d_X8_isSet v1 M) = 0)) 6 3 (7)), [some (.ref 19), some (.int v1), some (.int v2)], [.ref 19], M, 0))) := by rfl
set_option maxRecDepth 100000 in
theorem b_X8_sums_1 : (fun (v1 : Int32) (v2 : Int32) (M : Mem) => run C_X8_sums 5 (13, [some (.ref 19), some (.int v1), some (.int v2)], [.ref 19], M, 0)) = (fun (v1 : Int32) (v2 : Int32) (M : Mem) => some (.inl ((br (!decide ((d_X8_isIn v2 (1 : Int32) (100 : Int32)) = 0)) 20 3 (7)), [some (.ref 19), some (.int v1), some (.int v2)], [.ref 19], M, 0))) := by rfl
set_option maxRecDepth 100000 in
theorem b_X8_sums_2 : (fun (v1 : Int32) (v2 : Int32) (M : Mem) => run C_X8_sums 1 (27, [some (.ref 19), some (.int v1), some (.int v2)], [.ref 19], M, 0)) = (fun (v1 : Int32) (v2 : Int32) (M : Mem) => some (.inl (28, [some (.ref 19), some (.int v1), some (.int v2)], [.int (0 : Int32), .ref 19], M, 0))) := by rfl
set_option maxRecDepth 100000 in
theorem b_X8_sums_3 : (fun (v1 : Int32) (v2 : Int32) (M : Mem) => run C_X8_sums 2 (23, [some (.ref 19), some (.int v1), some (.int v2)], [.ref 19], M, 0)) = (fun (v1 : Int32) (v2 : Int32) (M : Mem) => some (.inl (28, [some (.ref 19), some (.int v1), some (.int v2)], [.int (2 : Int32), .ref 19], M, 0))) := by rfl
theorem m_X8_sums_0 (v1 : Int32) (v2 : Int32) (M : Mem) : Rto C_X8_sums (13, [some (.ref 19), some (.int v1), some (.int v2)], [.ref 19], M, 0) (28, [some (.ref 19), some (.int v1), some (.int v2)], [.int (if (d_X8_isIn v2 (1 : Int32) (100 : Int32)) = 0 then (2 : Int32) else (0 : Int32)), .ref 19], M, 0) := by
  refine Rto.trans (Rto.run 5 (congrFun (congrFun (congrFun b_X8_sums_1 v1) v2) M)) ?_
  by_cases h : (d_X8_isIn v2 (1 : Int32) (100 : Int32)) = 0
  · refine Rto.trans (Rto.brNF (q := 23) h rfl) ?_
    refine Rto.trans (Rto.run 2 (congrFun (congrFun (congrFun b_X8_sums_3 v1) v2) M)) ?_
    exact Rto.eq (by first | (simp only [if_pos h]; done) | rfl | exact absurd rfl h | (simp; done))
  · refine Rto.trans (Rto.brNT (q := 27) h rfl) ?_
    refine Rto.trans (Rto.run 1 (congrFun (congrFun (congrFun b_X8_sums_2 v1) v2) M)) ?_
    exact Rto.eq (by first | (simp only [if_neg h]; done) | rfl | exact absurd rfl h | (simp; done))
set_option maxRecDepth 100000 in
theorem b_X8_sums_4 : (fun (v1 : Int32) (v2 : Int32) (M : Mem) => run C_X8_sums 2 (9, [some (.ref 19), some (.int v1), some (.int v2)], [.ref 19], M, 0)) = (fun (v1 : Int32) (v2 : Int32) (M : Mem) => some (.inl (28, [some (.ref 19), some (.int v1), some (.int v2)], [.int (1 : Int32), .ref 19], M, 0))) := by rfl
theorem m_X8_sums_1 (v1 : Int32) (v2 : Int32) (M : Mem) : Rto C_X8_sums (0, [some (.ref 19), some (.int v1), some (.int v2)], [], M, 0) (28, [some (.ref 19), some (.int v1), some (.int v2)], [.int (if (d_X8_isSet v1 M) = 0 then (1 : Int32) else (if (d_X8_isIn v2 (1 : Int32) (100 : Int32)) = 0 then (2 : Int32) else (0 : Int32))), .ref 19], M, 0) := by
  refine Rto.trans (Rto.run 5 (congrFun (congrFun (congrFun b_X8_sums_0 v1) v2) M)) ?_
  by_cases h : (d_X8_isSet v1 M) = 0
  · refine Rto.trans (Rto.brNF (q := 9) h rfl) ?_
    refine Rto.trans (Rto.run 2 (congrFun (congrFun (congrFun b_X8_sums_4 v1) v2) M)) ?_
    exact Rto.eq (by first | (simp only [if_pos h]; done) | rfl | exact absurd rfl h | (simp; done))
  · refine Rto.trans (Rto.brNT (q := 13) h rfl) ?_
    refine Rto.trans (m_X8_sums_0 v1 v2 M) ?_
    exact Rto.eq (by first | (simp only [if_neg h]; done) | rfl | exact absurd rfl h | (simp; done))
set_option maxRecDepth 100000 in
theorem b_X8_sums_5 : (fun (v1 : Int32) (v2 : Int32) (M : Mem) => run C_X8_sums 4 (28, [some (.ref 19), some (.int v1), some (.int v2)], [.int (if (d_X8_isSet v1 M) = 0 then (1 : Int32) else (if (d_X8_isIn v2 (1 : Int32) (100 : Int32)) = 0 then (2 : Int32) else (0 : Int32))), .ref 19], M, 0)) = (fun (v1 : Int32) (v2 : Int32) (M : Mem) => some (.inl ((br (decide ((if (d_X8_isSet v1 M) = 0 then (1 : Int32) else (if (d_X8_isIn v2 (1 : Int32) (100 : Int32)) = 0 then (2 : Int32) else (0 : Int32))) ≤ 0)) 35 3 (7)), [some (.ref 19), some (.int v1), some (.int v2)], [], (sI M 19 15 (if (d_X8_isSet v1 M) = 0 then (1 : Int32) else (if (d_X8_isIn v2 (1 : Int32) (100 : Int32)) = 0 then (2 : Int32) else (0 : Int32)))), 0))) := by rfl
set_option maxRecDepth 100000 in
theorem b_X8_sums_6 : (fun (v1 : Int32) (v2 : Int32) (M : Mem) => run C_X8_sums 4 (42, [some (.ref 19), some (.int v1), some (.int v2)], [], (sI M 19 15 (if (d_X8_isSet v1 M) = 0 then (1 : Int32) else (if (d_X8_isIn v2 (1 : Int32) (100 : Int32)) = 0 then (2 : Int32) else (0 : Int32)))), 0)) = (fun (v1 : Int32) (v2 : Int32) (M : Mem) => some (.inl (48, [some (.ref 19), some (.int v1), some (.int v2)], [.int v1, .ref 20, .ref 19], (sI M 19 15 (if (d_X8_isSet v1 M) = 0 then (1 : Int32) else (if (d_X8_isIn v2 (1 : Int32) (100 : Int32)) = 0 then (2 : Int32) else (0 : Int32)))), 0))) := by rfl
set_option maxRecDepth 100000 in
theorem b_X8_sums_7 : (fun (v1 : Int32) (v2 : Int32) (M : Mem) => stp C_X8_sums (48, [some (.ref 19), some (.int v1), some (.int v2)], [.int v1, .ref 20, .ref 19], (sI M 19 15 (if (d_X8_isSet v1 M) = 0 then (1 : Int32) else (if (d_X8_isIn v2 (1 : Int32) (100 : Int32)) = 0 then (2 : Int32) else (0 : Int32)))), 0)) = (fun (v1 : Int32) (v2 : Int32) (M : Mem) => (if inb v1 30 = true then some (.inl (49, [some (.ref 19), some (.int v1), some (.int v2)], [.long (M.2 20 (ix v1)), .ref 19], (sI M 19 15 (if (d_X8_isSet v1 M) = 0 then (1 : Int32) else (if (d_X8_isIn v2 (1 : Int32) (100 : Int32)) = 0 then (2 : Int32) else (0 : Int32)))), 0)) else none)) := by rfl
set_option maxRecDepth 100000 in
theorem b_X8_sums_8 : (fun (v1 : Int32) (v2 : Int32) (M : Mem) => run C_X8_sums 1 (49, [some (.ref 19), some (.int v1), some (.int v2)], [.long (M.2 20 (ix v1)), .ref 19], (sI M 19 15 (if (d_X8_isSet v1 M) = 0 then (1 : Int32) else (if (d_X8_isIn v2 (1 : Int32) (100 : Int32)) = 0 then (2 : Int32) else (0 : Int32)))), 0)) = (fun (v1 : Int32) (v2 : Int32) (M : Mem) => some (.inl (50, [some (.ref 19), some (.int v1), some (.int v2)], [.int v2, .long (M.2 20 (ix v1)), .ref 19], (sI M 19 15 (if (d_X8_isSet v1 M) = 0 then (1 : Int32) else (if (d_X8_isIn v2 (1 : Int32) (100 : Int32)) = 0 then (2 : Int32) else (0 : Int32)))), 0))) := by rfl
set_option maxRecDepth 100000 in
theorem b_X8_sums_9 : (fun (v1 : Int32) (v2 : Int32) (M : Mem) (w1 : Int64) => run C_X8_sums 1 (53, [some (.ref 19), some (.int v1), some (.int v2)], [.long w1], (sI M 19 15 (if (d_X8_isSet v1 M) = 0 then (1 : Int32) else (if (d_X8_isIn v2 (1 : Int32) (100 : Int32)) = 0 then (2 : Int32) else (0 : Int32)))), 0)) = (fun (v1 : Int32) (v2 : Int32) (M : Mem) (w1 : Int64) => some (.inr (.inl (some (.long w1)), (sI M 19 15 (if (d_X8_isSet v1 M) = 0 then (1 : Int32) else (if (d_X8_isIn v2 (1 : Int32) (100 : Int32)) = 0 then (2 : Int32) else (0 : Int32)))), 0))) := by rfl
set_option maxRecDepth 100000 in
theorem b_X8_sums_10 : (fun (v1 : Int32) (v2 : Int32) (M : Mem) => run C_X8_sums 3 (38, [some (.ref 19), some (.int v1), some (.int v2)], [], (sI M 19 15 (if (d_X8_isSet v1 M) = 0 then (1 : Int32) else (if (d_X8_isIn v2 (1 : Int32) (100 : Int32)) = 0 then (2 : Int32) else (0 : Int32)))), 0)) = (fun (v1 : Int32) (v2 : Int32) (M : Mem) => some (.inr (.inl (some (.long (0 : Int64))), (sI M 19 15 (if (d_X8_isSet v1 M) = 0 then (1 : Int32) else (if (d_X8_isIn v2 (1 : Int32) (100 : Int32)) = 0 then (2 : Int32) else (0 : Int32)))), 0))) := by rfl
def d_X8_sums (v1 : Int32) (v2 : Int32) (M : Mem) : Option (Res × Mem) := (if (if (d_X8_isSet v1 M) = 0 then (1 : Int32) else (if (d_X8_isIn v2 (1 : Int32) (100 : Int32)) = 0 then (2 : Int32) else (0 : Int32))) ≤ 0 then (if inb v1 30 = true then ((d_X8_sumsOf (M.2 20 (ix v1)) v2 (sI M 19 15 (if (d_X8_isSet v1 M) = 0 then (1 : Int32) else (if (d_X8_isIn v2 (1 : Int32) (100 : Int32)) = 0 then (2 : Int32) else (0 : Int32))))).bind fun w1 => some (.inl (some (.long w1)), (sI M 19 15 (if (d_X8_isSet v1 M) = 0 then (1 : Int32) else (if (d_X8_isIn v2 (1 : Int32) (100 : Int32)) = 0 then (2 : Int32) else (0 : Int32)))))) else none) else some (.inl (some (.long (0 : Int64))), (sI M 19 15 (if (d_X8_isSet v1 M) = 0 then (1 : Int32) else (if (d_X8_isIn v2 (1 : Int32) (100 : Int32)) = 0 then (2 : Int32) else (0 : Int32))))))
set_option maxHeartbeats 2000000 in
theorem r_X8_sums (v1 : Int32) (v2 : Int32) (M : Mem) : RG C_X8_sums (0, [some (.ref 19), some (.int v1), some (.int v2)], [], M, 0) (d_X8_sums v1 v2 M) (fun r => .inr r) := by
  unfold d_X8_sums
  refine RG.step (m_X8_sums_1 v1 v2 M) ?_
  refine RG.st 4 (congrFun (congrFun (congrFun b_X8_sums_5 v1) v2) M) ?_
  refine RG.ite (fun h1 => RG.brT (q := 42) h1 rfl ?_) (fun h1 => RG.brF (q := 38) h1 rfl ?_)
  · refine RG.st 4 (congrFun (congrFun (congrFun b_X8_sums_6 v1) v2) M) ?_
    refine RG.guard (fun h2 => RG.st 1 (stp_g h2 (congrFun (congrFun (congrFun b_X8_sums_7 v1) v2) M)) ?_)
    refine RG.st 1 (congrFun (congrFun (congrFun b_X8_sums_8 v1) v2) M) ?_
    refine RG.bind (fun w1 h3 => RG.st 1 (run_callV (v := some (.long w1)) rfl rfl rfl rfl rfl (bindL h3)) ?_)
    show RG C_X8_sums (53, [some (.ref 19), some (.int v1), some (.int v2)], [.long w1], (sI M 19 15 (if (d_X8_isSet v1 M) = 0 then (1 : Int32) else (if (d_X8_isIn v2 (1 : Int32) (100 : Int32)) = 0 then (2 : Int32) else (0 : Int32)))), 0) _ _
    exact RG.fin rfl (Rend.run 1 (congrFun (congrFun (congrFun (congrFun b_X8_sums_9 v1) v2) M) w1))
  · exact RG.fin rfl (Rend.run 3 (congrFun (congrFun (congrFun b_X8_sums_10 v1) v2) M))
def fn_X8_sums : Fn := fun av M => match av with
  | [.ref r0, .int v1, .int v2] => bif Nat.beq r0 19 then (d_X8_sums v1 v2 M) else (none)
  | _ => none
theorem cfg_X8_sums : CfgOK RX8 cX8_sums (C_X8_sums) 6 := ⟨tk_X8_sums, csF_nd, flk_X8, (List.forall_mem_cons.mpr ⟨Or.inr ⟨yX8_isIn, cX8_isIn, 3, (some .boolean), none, 1, ok_X8_isIn, by decide, by decide, w_code_SumsetryModel_isIn__III_Z, w_initialized_SumsetryModel, ⟨by decide, by decide⟩, Or.inl ⟨rfl, show (parseMethodDescriptor yX8_isIn.desc).map (fun d => d.parameters.length) = some 3 from by decide +kernel, w_methodLink_SumsetryModel_53, w_static_SumsetryModel_isIn__III_Z⟩⟩,
    List.forall_mem_cons.mpr ⟨Or.inr ⟨yX8_isSet, cX8_isSet, 2, (some .boolean), none, 2, ok_X8_isSet, by decide, by decide, w_code_SumsetryModel_isSet__I_Z, w_initialized_SumsetryModel, ⟨by decide, by decide⟩, Or.inr (Or.inr ⟨rfl, rfl, show (parseMethodDescriptor yX8_isSet.desc).map (fun d => d.parameters.length + 1) = some 2 from by decide +kernel, w_methodLink_SumsetryModel_96, w_instanceMethod_SumsetryModel_isSet__I_Z, w_selects_SumsetryModel_isSet__I_Z, ⟨_, rfl, rfl⟩⟩)⟩,
    List.forall_mem_cons.mpr ⟨Or.inr ⟨yX8_sumsOf, cX8_sumsOf, 7, (some .long), none, 5, ok_X8_sumsOf, by decide, by decide, w_code_SumsetryModel_sumsOf__JI_J, w_initialized_SumsetryModel, ⟨by decide, by decide⟩, Or.inr (Or.inr ⟨rfl, rfl, show (parseMethodDescriptor yX8_sumsOf.desc).map (fun d => d.parameters.length + 1) = some 3 from by decide +kernel, w_methodLink_SumsetryModel_121, w_instanceMethod_SumsetryModel_sumsOf__JI_J, w_selects_SumsetryModel_sumsOf__JI_J, ⟨_, rfl, rfl⟩⟩)⟩, fun _ h => absurd h List.not_mem_nil⟩⟩⟩), ink_X8, lgk_X8, fun e h => absurd h List.not_mem_nil, (fun h hh => absurd hh List.not_mem_nil)⟩
theorem ok_X8_sums : OkM csF yX8_sums (Cond.code yX8_sums cX8_sums 3 (some .long)) 6 0 fn_X8_sums :=
  OkM_of (own := RX8) (C := C_X8_sums) (by decide +kernel) rfl (cfg_X8_sums) rfl rfl rfl rfl (by
    intro av M o M' h
    unfold fn_X8_sums at h
    split at h
    · rename_i r0 v1 v2
      rcases bif_cs h with ⟨hb, h⟩ | ⟨-, h⟩
      · skip
        have hr0 := hb
        obtain rfl := Nat.eq_of_beq_eq_true hr0
        exact ⟨rfl, Nat.le_of_ble_eq_true rfl, (r_X8_sums v1 v2 M) (o, M') h⟩
      · cases h
    · cases h)
def t_X8_orderOf : List (Nat × Instr × Nat) := [(0, .lload_n 1, 1), (1, .lstore_n 3, 1), (2, .iconst 1, 1), (3, .istore 5, 2), (5, .iload 5, 2), (7, .bipush 80, 2), (9, .if_icmp .ge 34, 3), (12, .lload_n 1, 1), (13, .lconst 0, 1), (14, .lcmp, 1), (15, .ifCond .eq 28, 3), (18, .lload_n 3, 1), (19, .aload_n 0, 1), (20, .invokevirtual 82, 3), (23, .lcmp, 1), (24, .ifCond .ne 6, 3), (27, .iload 5, 2), (29, .ireturn, 1), (30, .aload_n 0, 1), (31, .lload_n 3, 1), (32, .lload_n 1, 1), (33, .invokevirtual 99, 3), (36, .lstore_n 3, 1), (37, .iinc 5 1, 3), (40, .goto (-35), 3), (43, .iconst (-1), 1), (44, .ireturn, 1)]
theorem tk_X8_orderOf : ∀ x ∈ t_X8_orderOf, decode cX8_orderOf x.1 = .ok x.2 := by decide +kernel
def C_X8_orderOf : Cfg := (t_X8_orderOf, csF, fl_X8, [(82, 2, 6, 1, 0, fn_X8_whole), (99, 2, 6, 3, 0, fn_X8_sumOf)], in_X8, lg_X8, [], [], none, (some .int), 0)
set_option maxRecDepth 100000 in
theorem b_X8_orderOf_0 : (fun (v1 : Int64) (M : Mem) => run C_X8_orderOf 4 (0, [some (.ref 19), some (.long v1), none, none, none, none], [], M, 0)) = (fun (v1 : Int64) (M : Mem) => some (.inl (5, [some (.ref 19), some (.long v1), none, some (.long v1), none, some (.int (1 : Int32))], [], M, 0))) := by rfl
set_option maxRecDepth 100000 in
theorem b_X8_orderOf_1 : (fun (v1 : Int64) (M : Mem) (a1 : (Int64 × Int32)) => run C_X8_orderOf 3 (5, [some (.ref 19), some (.long v1), none, some (.long a1.1), none, some (.int a1.2)], [], M, 0)) = (fun (v1 : Int64) (M : Mem) (a1 : (Int64 × Int32)) => some (.inl ((br (!decide (a1.2 < (80 : Int32))) 9 3 (34)), [some (.ref 19), some (.long v1), none, some (.long a1.1), none, some (.int a1.2)], [], M, 0))) := by rfl
set_option maxRecDepth 100000 in
theorem b_X8_orderOf_2 : (fun (v1 : Int64) (M : Mem) (a1 : (Int64 × Int32)) => run C_X8_orderOf 4 (12, [some (.ref 19), some (.long v1), none, some (.long a1.1), none, some (.int a1.2)], [], M, 0)) = (fun (v1 : Int64) (M : Mem) (a1 : (Int64 × Int32)) => some (.inl ((br (decide ((lg_cmp v1 (0 : Int64)) = 0)) 15 3 (28)), [some (.ref 19), some (.long v1), none, some (.long a1.1), none, some (.int a1.2)], [], M, 0))) := by rfl
set_option maxRecDepth 100000 in
theorem b_X8_orderOf_3 : (fun (v1 : Int64) (M : Mem) (a1 : (Int64 × Int32)) => run C_X8_orderOf 5 (18, [some (.ref 19), some (.long v1), none, some (.long a1.1), none, some (.int a1.2)], [], M, 0)) = (fun (v1 : Int64) (M : Mem) (a1 : (Int64 × Int32)) => some (.inl ((br (!decide ((lg_cmp a1.1 (d_X8_whole M)) = 0)) 24 3 (6)), [some (.ref 19), some (.long v1), none, some (.long a1.1), none, some (.int a1.2)], [], M, 0))) := by rfl
set_option maxRecDepth 100000 in
theorem b_X8_orderOf_4 : (fun (v1 : Int64) (M : Mem) (a1 : (Int64 × Int32)) => run C_X8_orderOf 2 (27, [some (.ref 19), some (.long v1), none, some (.long a1.1), none, some (.int a1.2)], [], M, 0)) = (fun (v1 : Int64) (M : Mem) (a1 : (Int64 × Int32)) => some (.inr (.inl (some (.int a1.2)), M, 0))) := by rfl
set_option maxRecDepth 100000 in
theorem b_X8_orderOf_5 : (fun (v1 : Int64) (M : Mem) (a1 : (Int64 × Int32)) => run C_X8_orderOf 3 (30, [some (.ref 19), some (.long v1), none, some (.long a1.1), none, some (.int a1.2)], [], M, 0)) = (fun (v1 : Int64) (M : Mem) (a1 : (Int64 × Int32)) => some (.inl (33, [some (.ref 19), some (.long v1), none, some (.long a1.1), none, some (.int a1.2)], [.long v1, .long a1.1, .ref 19], M, 0))) := by rfl
set_option maxRecDepth 100000 in
theorem b_X8_orderOf_6 : (fun (v1 : Int64) (M : Mem) (a1 : (Int64 × Int32)) (w1 : Int64) => run C_X8_orderOf 3 (36, [some (.ref 19), some (.long v1), none, some (.long a1.1), none, some (.int a1.2)], [.long w1], M, 0)) = (fun (v1 : Int64) (M : Mem) (a1 : (Int64 × Int32)) (w1 : Int64) => some (.inl (5, [some (.ref 19), some (.long v1), none, some (.long w1), none, some (.int (a1.2 + (1 : Int32)))], [], M, 0))) := by rfl
def g_X8_orderOf_1 (v1 : Int64) (M : Mem) : Int64 × Int32 → Option ((Int64 × Int32) ⊕ ((Int64 × Int32) ⊕ Int32)) := fun (a1 : Int64 × Int32) => (if a1.2 < (80 : Int32) then (if (lg_cmp v1 (0 : Int64)) = 0 then some (.inr (.inl (a1.1, a1.2))) else (if (lg_cmp a1.1 (d_X8_whole M)) = 0 then some (.inr (.inr a1.2)) else ((d_X8_sumOf a1.1 v1 M).bind fun w1 => some (.inl (w1, (a1.2 + (1 : Int32))))))) else some (.inr (.inl (a1.1, a1.2))))
set_option maxHeartbeats 2000000 in
theorem l_X8_orderOf_1 (v1 : Int64) (M : Mem) : ∀ a1 : Int64 × Int32, RG C_X8_orderOf ((fun (a1 : Int64 × Int32) => (5, [some (.ref 19), some (.long v1), none, some (.long a1.1), none, some (.int a1.2)], [], M, 0)) a1) (g_X8_orderOf_1 v1 M a1) (lpP (fun (a1 : Int64 × Int32) => (5, [some (.ref 19), some (.long v1), none, some (.long a1.1), none, some (.int a1.2)], [], M, 0)) (fun (a1 : Int64 × Int32) => (43, [some (.ref 19), some (.long v1), none, some (.long a1.1), none, some (.int a1.2)], [], M, 0)) (fun (v : Int32) => (.inl (some (.int v)), M))) := by
  intro a1
  unfold g_X8_orderOf_1
  show RG C_X8_orderOf (5, [some (.ref 19), some (.long v1), none, some (.long a1.1), none, some (.int a1.2)], [], M, 0) _ _
  refine RG.st 3 (congrFun (congrFun (congrFun b_X8_orderOf_1 v1) M) a1) ?_
  refine RG.ite (fun h1 => RG.brNF (q := 12) h1 rfl ?_) (fun h1 => RG.brNT (q := 43) h1 rfl ?_)
  · refine RG.st 4 (congrFun (congrFun (congrFun b_X8_orderOf_2 v1) M) a1) ?_
    refine RG.ite (fun h2 => RG.brT (q := 43) h2 rfl ?_) (fun h2 => RG.brF (q := 18) h2 rfl ?_)
    · exact RG.to rfl (Rto.refl _)
    · refine RG.st 5 (congrFun (congrFun (congrFun b_X8_orderOf_3 v1) M) a1) ?_
      refine RG.ite (fun h3 => RG.brNF (q := 27) h3 rfl ?_) (fun h3 => RG.brNT (q := 30) h3 rfl ?_)
      · exact RG.fin rfl (Rend.run 2 (congrFun (congrFun (congrFun b_X8_orderOf_4 v1) M) a1))
      · refine RG.st 3 (congrFun (congrFun (congrFun b_X8_orderOf_5 v1) M) a1) ?_
        refine RG.bind (fun w1 h4 => RG.st 1 (run_callV (v := some (.long w1)) rfl rfl rfl rfl rfl (bindL h4)) ?_)
        show RG C_X8_orderOf (36, [some (.ref 19), some (.long v1), none, some (.long a1.1), none, some (.int a1.2)], [.long w1], M, 0) _ _
        refine RG.st 3 (congrFun (congrFun (congrFun (congrFun b_X8_orderOf_6 v1) M) a1) w1) ?_
        exact RG.to rfl (Rto.refl _)
  · exact RG.to rfl (Rto.refl _)
set_option maxRecDepth 100000 in
theorem b_X8_orderOf_7 : (fun (v1 : Int64) (M : Mem) (a2 : (Int64 × Int32)) => run C_X8_orderOf 2 (43, [some (.ref 19), some (.long v1), none, some (.long a2.1), none, some (.int a2.2)], [], M, 0)) = (fun (v1 : Int64) (M : Mem) (a2 : (Int64 × Int32)) => some (.inr (.inl (some (.int (-1 : Int32))), M, 0))) := by rfl
def d_X8_orderOf (v1 : Int64) (M : Mem) : Option Int32 := (onIt (iter (g_X8_orderOf_1 v1 M) 20000 (v1, (1 : Int32))) (fun (a2 : Int64 × Int32) => some (-1 : Int32)) (fun r => some r))
set_option maxHeartbeats 2000000 in
theorem r_X8_orderOf (v1 : Int64) (M : Mem) : RG C_X8_orderOf (0, [some (.ref 19), some (.long v1), none, none, none, none], [], M, 0) (d_X8_orderOf v1 M) (fun v => .inr (.inl (some (.int v)), M)) := by
  unfold d_X8_orderOf
  refine RG.st 4 (congrFun (congrFun b_X8_orderOf_0 v1) M) ?_
  refine RG.loop (hd := (fun (a1 : Int64 × Int32) => (5, [some (.ref 19), some (.long v1), none, some (.long a1.1), none, some (.int a1.2)], [], M, 0))) (ex := (fun (a1 : Int64 × Int32) => (43, [some (.ref 19), some (.long v1), none, some (.long a1.1), none, some (.int a1.2)], [], M, 0))) (rt := (fun (v : Int32) => (.inl (some (.int v)), M))) (l_X8_orderOf_1 v1 M) (fun a2 => ?_) (fun r v h => by cases h; rfl)
  show RG C_X8_orderOf (43, [some (.ref 19), some (.long v1), none, some (.long a2.1), none, some (.int a2.2)], [], M, 0) _ _
  exact RG.fin rfl (Rend.run 2 (congrFun (congrFun (congrFun b_X8_orderOf_7 v1) M) a2))
def fn_X8_orderOf : Fn := fun av M => match av with
  | [.ref r0, .long v1] => bif Nat.beq r0 19 then (d_X8_orderOf v1 M).bind fun v => some (.inl (some (.int v)), M) else (none)
  | _ => none
theorem cfg_X8_orderOf : CfgOK RX8 cX8_orderOf (C_X8_orderOf) 5 := ⟨tk_X8_orderOf, csF_nd, flk_X8, (List.forall_mem_cons.mpr ⟨Or.inr ⟨yX8_whole, cX8_whole, 1, (some .long), none, 2, ok_X8_whole, by decide, by decide, w_code_SumsetryModel_whole___J, w_initialized_SumsetryModel, ⟨by decide, by decide⟩, Or.inr (Or.inr ⟨rfl, rfl, show (parseMethodDescriptor yX8_whole.desc).map (fun d => d.parameters.length + 1) = some 1 from by decide +kernel, w_methodLink_SumsetryModel_82, w_instanceMethod_SumsetryModel_whole___J, w_selects_SumsetryModel_whole___J, ⟨_, rfl, rfl⟩⟩)⟩,
    List.forall_mem_cons.mpr ⟨Or.inr ⟨yX8_sumOf, cX8_sumOf, 5, (some .long), none, 4, ok_X8_sumOf, by decide, by decide, w_code_SumsetryModel_sumOf__JJ_J, w_initialized_SumsetryModel, ⟨by decide, by decide⟩, Or.inr (Or.inr ⟨rfl, rfl, show (parseMethodDescriptor yX8_sumOf.desc).map (fun d => d.parameters.length + 1) = some 3 from by decide +kernel, w_methodLink_SumsetryModel_99, w_instanceMethod_SumsetryModel_sumOf__JJ_J, w_selects_SumsetryModel_sumOf__JJ_J, ⟨_, rfl, rfl⟩⟩)⟩, fun _ h => absurd h List.not_mem_nil⟩⟩), ink_X8, lgk_X8, fun e h => absurd h List.not_mem_nil, (fun h hh => absurd hh List.not_mem_nil)⟩
theorem ok_X8_orderOf : OkM csF yX8_orderOf (Cond.code yX8_orderOf cX8_orderOf 6 (some .int)) 5 0 fn_X8_orderOf :=
  OkM_of (own := RX8) (C := C_X8_orderOf) (by decide +kernel) rfl (cfg_X8_orderOf) rfl rfl rfl rfl (by
    intro av M o M' h
    unfold fn_X8_orderOf at h
    split at h
    · rename_i r0 v1
      rcases bif_cs h with ⟨hb, h⟩ | ⟨-, h⟩
      · skip
        have hr0 := hb
        obtain rfl := Nat.eq_of_beq_eq_true hr0
        obtain ⟨w, hw, h⟩ := bind_cs h
        cases h
        exact ⟨rfl, Nat.le_of_ble_eq_true rfl, (r_X8_orderOf v1 M) w hw⟩
      · cases h
    · cases h)
def t_X8_order : List (Nat × Instr × Nat) := [(0, .aload_n 0, 1), (1, .aload_n 0, 1), (2, .iload_n 1, 1), (3, .invokevirtual 96, 3), (6, .ifCond .eq 7, 3), (9, .iconst 0, 1), (10, .goto 4, 3), (13, .iconst 1, 1), (14, .putfield 46, 3), (17, .aload_n 0, 1), (18, .getfield 46, 3), (21, .ifCond .le 7, 3), (24, .iconst 0, 1), (25, .goto 13, 3), (28, .aload_n 0, 1), (29, .aload_n 0, 1), (30, .getfield 16, 3), (33, .iload_n 1, 1), (34, .laload, 1), (35, .invokevirtual 125, 3), (38, .ireturn, 1)]
theorem tk_X8_order : ∀ x ∈ t_X8_order, decode cX8_order x.1 = .ok x.2 := by decide +kernel
def C_X8_order : Cfg := (t_X8_order, csF, fl_X8, [(96, 2, 6, 2, 0, fn_X8_isSet), (125, 2, 6, 2, 0, fn_X8_orderOf)], in_X8, lg_X8, [], [], none, (some .int), 0)
set_option maxRecDepth 100000 in
theorem b_X8_order_0 : (fun (v1 : Int32) (M : Mem) => run C_X8_order 5 (0, [some (.ref 19), some (.int v1)], [], M, 0)) = (fun (v1 : Int32) (M : Mem) => some (.inl ((br (decide ((d_X8_isSet v1 M) = 0)) 6 3 (7)), [some (.ref 19), some (.int v1)], [.ref 19], M, 0))) := by rfl
set_option maxRecDepth 100000 in
theorem b_X8_order_1 : (fun (v1 : Int32) (M : Mem) => run C_X8_order 1 (13, [some (.ref 19), some (.int v1)], [.ref 19], M, 0)) = (fun (v1 : Int32) (M : Mem) => some (.inl (14, [some (.ref 19), some (.int v1)], [.int (1 : Int32), .ref 19], M, 0))) := by rfl
set_option maxRecDepth 100000 in
theorem b_X8_order_2 : (fun (v1 : Int32) (M : Mem) => run C_X8_order 2 (9, [some (.ref 19), some (.int v1)], [.ref 19], M, 0)) = (fun (v1 : Int32) (M : Mem) => some (.inl (14, [some (.ref 19), some (.int v1)], [.int (0 : Int32), .ref 19], M, 0))) := by rfl
theorem m_X8_order_0 (v1 : Int32) (M : Mem) : Rto C_X8_order (0, [some (.ref 19), some (.int v1)], [], M, 0) (14, [some (.ref 19), some (.int v1)], [.int (if (d_X8_isSet v1 M) = 0 then (1 : Int32) else (0 : Int32)), .ref 19], M, 0) := by
  refine Rto.trans (Rto.run 5 (congrFun (congrFun b_X8_order_0 v1) M)) ?_
  by_cases h : (d_X8_isSet v1 M) = 0
  · refine Rto.trans (Rto.brT (q := 13) h rfl) ?_
    refine Rto.trans (Rto.run 1 (congrFun (congrFun b_X8_order_1 v1) M)) ?_
    exact Rto.eq (by first | (simp only [if_pos h]; done) | rfl | exact absurd rfl h | (simp; done))
  · refine Rto.trans (Rto.brF (q := 9) h rfl) ?_
    refine Rto.trans (Rto.run 2 (congrFun (congrFun b_X8_order_2 v1) M)) ?_
    exact Rto.eq (by first | (simp only [if_neg h]; done) | rfl | exact absurd rfl h | (simp; done))
set_option maxRecDepth 100000 in
theorem b_X8_order_3 : (fun (v1 : Int32) (M : Mem) => run C_X8_order 4 (14, [some (.ref 19), some (.int v1)], [.int (if (d_X8_isSet v1 M) = 0 then (1 : Int32) else (0 : Int32)), .ref 19], M, 0)) = (fun (v1 : Int32) (M : Mem) => some (.inl ((br (decide ((if (d_X8_isSet v1 M) = 0 then (1 : Int32) else (0 : Int32)) ≤ 0)) 21 3 (7)), [some (.ref 19), some (.int v1)], [], (sI M 19 15 (if (d_X8_isSet v1 M) = 0 then (1 : Int32) else (0 : Int32))), 0))) := by rfl
set_option maxRecDepth 100000 in
theorem b_X8_order_4 : (fun (v1 : Int32) (M : Mem) => run C_X8_order 4 (28, [some (.ref 19), some (.int v1)], [], (sI M 19 15 (if (d_X8_isSet v1 M) = 0 then (1 : Int32) else (0 : Int32))), 0)) = (fun (v1 : Int32) (M : Mem) => some (.inl (34, [some (.ref 19), some (.int v1)], [.int v1, .ref 20, .ref 19], (sI M 19 15 (if (d_X8_isSet v1 M) = 0 then (1 : Int32) else (0 : Int32))), 0))) := by rfl
set_option maxRecDepth 100000 in
theorem b_X8_order_5 : (fun (v1 : Int32) (M : Mem) => stp C_X8_order (34, [some (.ref 19), some (.int v1)], [.int v1, .ref 20, .ref 19], (sI M 19 15 (if (d_X8_isSet v1 M) = 0 then (1 : Int32) else (0 : Int32))), 0)) = (fun (v1 : Int32) (M : Mem) => (if inb v1 30 = true then some (.inl (35, [some (.ref 19), some (.int v1)], [.long (M.2 20 (ix v1)), .ref 19], (sI M 19 15 (if (d_X8_isSet v1 M) = 0 then (1 : Int32) else (0 : Int32))), 0)) else none)) := by rfl
set_option maxRecDepth 100000 in
theorem b_X8_order_6 : (fun (v1 : Int32) (M : Mem) (w1 : Int32) => run C_X8_order 1 (38, [some (.ref 19), some (.int v1)], [.int w1], (sI M 19 15 (if (d_X8_isSet v1 M) = 0 then (1 : Int32) else (0 : Int32))), 0)) = (fun (v1 : Int32) (M : Mem) (w1 : Int32) => some (.inr (.inl (some (.int w1)), (sI M 19 15 (if (d_X8_isSet v1 M) = 0 then (1 : Int32) else (0 : Int32))), 0))) := by rfl
set_option maxRecDepth 100000 in
theorem b_X8_order_7 : (fun (v1 : Int32) (M : Mem) => run C_X8_order 3 (24, [some (.ref 19), some (.int v1)], [], (sI M 19 15 (if (d_X8_isSet v1 M) = 0 then (1 : Int32) else (0 : Int32))), 0)) = (fun (v1 : Int32) (M : Mem) => some (.inr (.inl (some (.int (0 : Int32))), (sI M 19 15 (if (d_X8_isSet v1 M) = 0 then (1 : Int32) else (0 : Int32))), 0))) := by rfl
def d_X8_order (v1 : Int32) (M : Mem) : Option (Res × Mem) := (if (if (d_X8_isSet v1 M) = 0 then (1 : Int32) else (0 : Int32)) ≤ 0 then (if inb v1 30 = true then ((d_X8_orderOf (M.2 20 (ix v1)) (sI M 19 15 (if (d_X8_isSet v1 M) = 0 then (1 : Int32) else (0 : Int32)))).bind fun w1 => some (.inl (some (.int w1)), (sI M 19 15 (if (d_X8_isSet v1 M) = 0 then (1 : Int32) else (0 : Int32))))) else none) else some (.inl (some (.int (0 : Int32))), (sI M 19 15 (if (d_X8_isSet v1 M) = 0 then (1 : Int32) else (0 : Int32)))))
set_option maxHeartbeats 2000000 in
theorem r_X8_order (v1 : Int32) (M : Mem) : RG C_X8_order (0, [some (.ref 19), some (.int v1)], [], M, 0) (d_X8_order v1 M) (fun r => .inr r) := by
  unfold d_X8_order
  refine RG.step (m_X8_order_0 v1 M) ?_
  refine RG.st 4 (congrFun (congrFun b_X8_order_3 v1) M) ?_
  refine RG.ite (fun h1 => RG.brT (q := 28) h1 rfl ?_) (fun h1 => RG.brF (q := 24) h1 rfl ?_)
  · refine RG.st 4 (congrFun (congrFun b_X8_order_4 v1) M) ?_
    refine RG.guard (fun h2 => RG.st 1 (stp_g h2 (congrFun (congrFun b_X8_order_5 v1) M)) ?_)
    refine RG.bind (fun w1 h3 => RG.st 1 (run_callV (v := some (.int w1)) rfl rfl rfl rfl rfl (bindI h3)) ?_)
    show RG C_X8_order (38, [some (.ref 19), some (.int v1)], [.int w1], (sI M 19 15 (if (d_X8_isSet v1 M) = 0 then (1 : Int32) else (0 : Int32))), 0) _ _
    exact RG.fin rfl (Rend.run 1 (congrFun (congrFun (congrFun b_X8_order_6 v1) M) w1))
  · exact RG.fin rfl (Rend.run 3 (congrFun (congrFun b_X8_order_7 v1) M))
def fn_X8_order : Fn := fun av M => match av with
  | [.ref r0, .int v1] => bif Nat.beq r0 19 then (d_X8_order v1 M) else (none)
  | _ => none
theorem cfg_X8_order : CfgOK RX8 cX8_order (C_X8_order) 6 := ⟨tk_X8_order, csF_nd, flk_X8, (List.forall_mem_cons.mpr ⟨Or.inr ⟨yX8_isSet, cX8_isSet, 2, (some .boolean), none, 2, ok_X8_isSet, by decide, by decide, w_code_SumsetryModel_isSet__I_Z, w_initialized_SumsetryModel, ⟨by decide, by decide⟩, Or.inr (Or.inr ⟨rfl, rfl, show (parseMethodDescriptor yX8_isSet.desc).map (fun d => d.parameters.length + 1) = some 2 from by decide +kernel, w_methodLink_SumsetryModel_96, w_instanceMethod_SumsetryModel_isSet__I_Z, w_selects_SumsetryModel_isSet__I_Z, ⟨_, rfl, rfl⟩⟩)⟩,
    List.forall_mem_cons.mpr ⟨Or.inr ⟨yX8_orderOf, cX8_orderOf, 6, (some .int), none, 5, ok_X8_orderOf, by decide, by decide, w_code_SumsetryModel_orderOf__J_I, w_initialized_SumsetryModel, ⟨by decide, by decide⟩, Or.inr (Or.inr ⟨rfl, rfl, show (parseMethodDescriptor yX8_orderOf.desc).map (fun d => d.parameters.length + 1) = some 2 from by decide +kernel, w_methodLink_SumsetryModel_125, w_instanceMethod_SumsetryModel_orderOf__J_I, w_selects_SumsetryModel_orderOf__J_I, ⟨_, rfl, rfl⟩⟩)⟩, fun _ h => absurd h List.not_mem_nil⟩⟩), ink_X8, lgk_X8, fun e h => absurd h List.not_mem_nil, (fun h hh => absurd hh List.not_mem_nil)⟩
theorem ok_X8_order : OkM csF yX8_order (Cond.code yX8_order cX8_order 2 (some .int)) 6 0 fn_X8_order :=
  OkM_of (own := RX8) (C := C_X8_order) (by decide +kernel) rfl (cfg_X8_order) rfl rfl rfl rfl (by
    intro av M o M' h
    unfold fn_X8_order at h
    split at h
    · rename_i r0 v1
      rcases bif_cs h with ⟨hb, h⟩ | ⟨-, h⟩
      · skip
        have hr0 := hb
        obtain rfl := Nat.eq_of_beq_eq_true hr0
        exact ⟨rfl, Nat.le_of_ble_eq_true rfl, (r_X8_order v1 M) (o, M') h⟩
      · cases h
    · cases h)
def t_X8_essential : List (Nat × Instr × Nat) := [(0, .aload_n 0, 1), (1, .aload_n 0, 1), (2, .iload_n 1, 1), (3, .invokevirtual 96, 3), (6, .ifCond .eq 7, 3), (9, .iconst 0, 1), (10, .goto 4, 3), (13, .iconst 1, 1), (14, .putfield 46, 3), (17, .lconst 0, 1), (18, .lstore_n 2, 1), (19, .iconst 0, 1), (20, .istore 4, 2), (22, .iload 4, 2), (24, .aload_n 0, 1), (25, .invokevirtual 49, 3), (28, .if_icmp .ge 90, 3), (31, .aload_n 0, 1), (32, .getfield 46, 3), (35, .ifCond .ne 83, 3), (38, .aload_n 0, 1), (39, .getfield 16, 3), (42, .iload_n 1, 1), (43, .laload, 1), (44, .iload 4, 2), (46, .invokestatic 60, 3), (49, .ifCond .eq 21, 3), (52, .aload_n 0, 1), (53, .aload_n 0, 1), (54, .getfield 16, 3), (57, .iload_n 1, 1), (58, .laload, 1), (59, .invokevirtual 125, 3), (62, .iconst (-1), 1), (63, .if_icmp .eq 7, 3), (66, .iconst 1, 1), (67, .goto 4, 3), (70, .iconst 0, 1), (71, .istore 5, 2), (73, .lload_n 2, 1), (74, .iload 5, 2), (76, .ifCond .eq 33, 3), (79, .aload_n 0, 1), (80, .aload_n 0, 1), (81, .getfield 16, 3), (84, .iload_n 1, 1), (85, .laload, 1), (86, .lconst 1, 1), (87, .iload 4, 2), (89, .lshl, 1), (90, .ldc2_w 86, 3), (93, .lxor, 1), (94, .land, 1), (95, .invokevirtual 125, 3), (98, .iconst (-1), 1), (99, .if_icmp .ne 10, 3), (102, .lconst 1, 1), (103, .iload 4, 2), (105, .lshl, 1), (106, .goto 4, 3), (109, .lconst 0, 1), (110, .lor, 1), (111, .lstore_n 2, 1), (112, .iinc 4 1, 3), (115, .goto (-93), 3), (118, .lload_n 2, 1), (119, .lreturn, 1)]
theorem tk_X8_essential : ∀ x ∈ t_X8_essential, decode cX8_essential x.1 = .ok x.2 := by decide +kernel
def C_X8_essential : Cfg := (t_X8_essential, csF, fl_X8, [(49, 2, 6, 1, 0, fn_X8_size), (60, 0, 6, 2, 0, fn_X8_has), (96, 2, 6, 2, 0, fn_X8_isSet), (125, 2, 6, 2, 0, fn_X8_orderOf)], in_X8, lg_X8, [], [], none, (some .long), 0)
set_option maxRecDepth 100000 in
theorem b_X8_essential_0 : (fun (v1 : Int32) (M : Mem) => run C_X8_essential 5 (0, [some (.ref 19), some (.int v1), none, none, none, none], [], M, 0)) = (fun (v1 : Int32) (M : Mem) => some (.inl ((br (decide ((d_X8_isSet v1 M) = 0)) 6 3 (7)), [some (.ref 19), some (.int v1), none, none, none, none], [.ref 19], M, 0))) := by rfl
set_option maxRecDepth 100000 in
theorem b_X8_essential_1 : (fun (v1 : Int32) (M : Mem) => run C_X8_essential 1 (13, [some (.ref 19), some (.int v1), none, none, none, none], [.ref 19], M, 0)) = (fun (v1 : Int32) (M : Mem) => some (.inl (14, [some (.ref 19), some (.int v1), none, none, none, none], [.int (1 : Int32), .ref 19], M, 0))) := by rfl
set_option maxRecDepth 100000 in
theorem b_X8_essential_2 : (fun (v1 : Int32) (M : Mem) => run C_X8_essential 2 (9, [some (.ref 19), some (.int v1), none, none, none, none], [.ref 19], M, 0)) = (fun (v1 : Int32) (M : Mem) => some (.inl (14, [some (.ref 19), some (.int v1), none, none, none, none], [.int (0 : Int32), .ref 19], M, 0))) := by rfl
theorem m_X8_essential_0 (v1 : Int32) (M : Mem) : Rto C_X8_essential (0, [some (.ref 19), some (.int v1), none, none, none, none], [], M, 0) (14, [some (.ref 19), some (.int v1), none, none, none, none], [.int (if (d_X8_isSet v1 M) = 0 then (1 : Int32) else (0 : Int32)), .ref 19], M, 0) := by
  refine Rto.trans (Rto.run 5 (congrFun (congrFun b_X8_essential_0 v1) M)) ?_
  by_cases h : (d_X8_isSet v1 M) = 0
  · refine Rto.trans (Rto.brT (q := 13) h rfl) ?_
    refine Rto.trans (Rto.run 1 (congrFun (congrFun b_X8_essential_1 v1) M)) ?_
    exact Rto.eq (by first | (simp only [if_pos h]; done) | rfl | exact absurd rfl h | (simp; done))
  · refine Rto.trans (Rto.brF (q := 9) h rfl) ?_
    refine Rto.trans (Rto.run 2 (congrFun (congrFun b_X8_essential_2 v1) M)) ?_
    exact Rto.eq (by first | (simp only [if_neg h]; done) | rfl | exact absurd rfl h | (simp; done))
set_option maxRecDepth 100000 in
theorem b_X8_essential_3 : (fun (v1 : Int32) (M : Mem) => run C_X8_essential 5 (14, [some (.ref 19), some (.int v1), none, none, none, none], [.int (if (d_X8_isSet v1 M) = 0 then (1 : Int32) else (0 : Int32)), .ref 19], M, 0)) = (fun (v1 : Int32) (M : Mem) => some (.inl (22, [some (.ref 19), some (.int v1), some (.long (0 : Int64)), none, some (.int (0 : Int32)), none], [], (sI M 19 15 (if (d_X8_isSet v1 M) = 0 then (1 : Int32) else (0 : Int32))), 0))) := by rfl
set_option maxRecDepth 100000 in
theorem b_X8_essential_4 : (fun (v1 : Int32) (M : Mem) (a1 : (Int64 × Int32)) => run C_X8_essential 4 (22, [some (.ref 19), some (.int v1), some (.long a1.1), none, some (.int a1.2), none], [], (sI M 19 15 (if (d_X8_isSet v1 M) = 0 then (1 : Int32) else (0 : Int32))), 0)) = (fun (v1 : Int32) (M : Mem) (a1 : (Int64 × Int32)) => some (.inl ((br (!decide (a1.2 < (d_X8_size (sI M 19 15 (if (d_X8_isSet v1 M) = 0 then (1 : Int32) else (0 : Int32)))))) 28 3 (90)), [some (.ref 19), some (.int v1), some (.long a1.1), none, some (.int a1.2), none], [], (sI M 19 15 (if (d_X8_isSet v1 M) = 0 then (1 : Int32) else (0 : Int32))), 0))) := by rfl
set_option maxRecDepth 100000 in
theorem b_X8_essential_5 : (fun (v1 : Int32) (M : Mem) (a1 : (Int64 × Int32)) => run C_X8_essential 3 (31, [some (.ref 19), some (.int v1), some (.long a1.1), none, some (.int a1.2), none], [], (sI M 19 15 (if (d_X8_isSet v1 M) = 0 then (1 : Int32) else (0 : Int32))), 0)) = (fun (v1 : Int32) (M : Mem) (a1 : (Int64 × Int32)) => some (.inl ((br (!decide ((if (d_X8_isSet v1 M) = 0 then (1 : Int32) else (0 : Int32)) = 0)) 35 3 (83)), [some (.ref 19), some (.int v1), some (.long a1.1), none, some (.int a1.2), none], [], (sI M 19 15 (if (d_X8_isSet v1 M) = 0 then (1 : Int32) else (0 : Int32))), 0))) := by rfl
set_option maxRecDepth 100000 in
theorem b_X8_essential_6 : (fun (v1 : Int32) (M : Mem) (a1 : (Int64 × Int32)) => run C_X8_essential 3 (38, [some (.ref 19), some (.int v1), some (.long a1.1), none, some (.int a1.2), none], [], (sI M 19 15 (if (d_X8_isSet v1 M) = 0 then (1 : Int32) else (0 : Int32))), 0)) = (fun (v1 : Int32) (M : Mem) (a1 : (Int64 × Int32)) => some (.inl (43, [some (.ref 19), some (.int v1), some (.long a1.1), none, some (.int a1.2), none], [.int v1, .ref 20], (sI M 19 15 (if (d_X8_isSet v1 M) = 0 then (1 : Int32) else (0 : Int32))), 0))) := by rfl
set_option maxRecDepth 100000 in
theorem b_X8_essential_7 : (fun (v1 : Int32) (M : Mem) (a1 : (Int64 × Int32)) => stp C_X8_essential (43, [some (.ref 19), some (.int v1), some (.long a1.1), none, some (.int a1.2), none], [.int v1, .ref 20], (sI M 19 15 (if (d_X8_isSet v1 M) = 0 then (1 : Int32) else (0 : Int32))), 0)) = (fun (v1 : Int32) (M : Mem) (a1 : (Int64 × Int32)) => (if inb v1 30 = true then some (.inl (44, [some (.ref 19), some (.int v1), some (.long a1.1), none, some (.int a1.2), none], [.long (M.2 20 (ix v1))], (sI M 19 15 (if (d_X8_isSet v1 M) = 0 then (1 : Int32) else (0 : Int32))), 0)) else none)) := by rfl
set_option maxRecDepth 100000 in
theorem b_X8_essential_8 : (fun (v1 : Int32) (M : Mem) (a1 : (Int64 × Int32)) => run C_X8_essential 3 (44, [some (.ref 19), some (.int v1), some (.long a1.1), none, some (.int a1.2), none], [.long (M.2 20 (ix v1))], (sI M 19 15 (if (d_X8_isSet v1 M) = 0 then (1 : Int32) else (0 : Int32))), 0)) = (fun (v1 : Int32) (M : Mem) (a1 : (Int64 × Int32)) => some (.inl ((br (decide ((d_X8_has (M.2 20 (ix v1)) a1.2) = 0)) 49 3 (21)), [some (.ref 19), some (.int v1), some (.long a1.1), none, some (.int a1.2), none], [], (sI M 19 15 (if (d_X8_isSet v1 M) = 0 then (1 : Int32) else (0 : Int32))), 0))) := by rfl
set_option maxRecDepth 100000 in
theorem b_X8_essential_9 : (fun (v1 : Int32) (M : Mem) (a1 : (Int64 × Int32)) => run C_X8_essential 5 (70, [some (.ref 19), some (.int v1), some (.long a1.1), none, some (.int a1.2), none], [], (sI M 19 15 (if (d_X8_isSet v1 M) = 0 then (1 : Int32) else (0 : Int32))), 0)) = (fun (v1 : Int32) (M : Mem) (a1 : (Int64 × Int32)) => some (.inl ((br (decide ((0 : Int32) = 0)) 76 3 (33)), [some (.ref 19), some (.int v1), some (.long a1.1), none, some (.int a1.2), some (.int (0 : Int32))], [.long a1.1], (sI M 19 15 (if (d_X8_isSet v1 M) = 0 then (1 : Int32) else (0 : Int32))), 0))) := by rfl
set_option maxRecDepth 100000 in
theorem b_X8_essential_10 : (fun (v1 : Int32) (M : Mem) (a1 : (Int64 × Int32)) => run C_X8_essential 5 (109, [some (.ref 19), some (.int v1), some (.long a1.1), none, some (.int a1.2), some (.int (0 : Int32))], [.long a1.1], (sI M 19 15 (if (d_X8_isSet v1 M) = 0 then (1 : Int32) else (0 : Int32))), 0)) = (fun (v1 : Int32) (M : Mem) (a1 : (Int64 × Int32)) => some (.inl (22, [some (.ref 19), some (.int v1), some (.long (a1.1 ||| (0 : Int64))), none, some (.int (a1.2 + (1 : Int32))), some (.int (0 : Int32))], [], (sI M 19 15 (if (d_X8_isSet v1 M) = 0 then (1 : Int32) else (0 : Int32))), 0))) := by rfl
set_option maxRecDepth 100000 in
theorem b_X8_essential_11 : (fun (v1 : Int32) (M : Mem) (a1 : (Int64 × Int32)) => run C_X8_essential 4 (79, [some (.ref 19), some (.int v1), some (.long a1.1), none, some (.int a1.2), some (.int (0 : Int32))], [.long a1.1], (sI M 19 15 (if (d_X8_isSet v1 M) = 0 then (1 : Int32) else (0 : Int32))), 0)) = (fun (v1 : Int32) (M : Mem) (a1 : (Int64 × Int32)) => some (.inl (85, [some (.ref 19), some (.int v1), some (.long a1.1), none, some (.int a1.2), some (.int (0 : Int32))], [.int v1, .ref 20, .ref 19, .long a1.1], (sI M 19 15 (if (d_X8_isSet v1 M) = 0 then (1 : Int32) else (0 : Int32))), 0))) := by rfl
set_option maxRecDepth 100000 in
theorem b_X8_essential_12 : (fun (v1 : Int32) (M : Mem) (a1 : (Int64 × Int32)) => stp C_X8_essential (85, [some (.ref 19), some (.int v1), some (.long a1.1), none, some (.int a1.2), some (.int (0 : Int32))], [.int v1, .ref 20, .ref 19, .long a1.1], (sI M 19 15 (if (d_X8_isSet v1 M) = 0 then (1 : Int32) else (0 : Int32))), 0)) = (fun (v1 : Int32) (M : Mem) (a1 : (Int64 × Int32)) => (if inb v1 30 = true then some (.inl (86, [some (.ref 19), some (.int v1), some (.long a1.1), none, some (.int a1.2), some (.int (0 : Int32))], [.long (M.2 20 (ix v1)), .ref 19, .long a1.1], (sI M 19 15 (if (d_X8_isSet v1 M) = 0 then (1 : Int32) else (0 : Int32))), 0)) else none)) := by rfl
set_option maxRecDepth 100000 in
theorem b_X8_essential_13 : (fun (v1 : Int32) (M : Mem) (a1 : (Int64 × Int32)) => run C_X8_essential 6 (86, [some (.ref 19), some (.int v1), some (.long a1.1), none, some (.int a1.2), some (.int (0 : Int32))], [.long (M.2 20 (ix v1)), .ref 19, .long a1.1], (sI M 19 15 (if (d_X8_isSet v1 M) = 0 then (1 : Int32) else (0 : Int32))), 0)) = (fun (v1 : Int32) (M : Mem) (a1 : (Int64 × Int32)) => some (.inl (95, [some (.ref 19), some (.int v1), some (.long a1.1), none, some (.int a1.2), some (.int (0 : Int32))], [.long ((M.2 20 (ix v1)) &&& ((jshl (1 : Int64) a1.2) ^^^ (-1 : Int64))), .ref 19, .long a1.1], (sI M 19 15 (if (d_X8_isSet v1 M) = 0 then (1 : Int32) else (0 : Int32))), 0))) := by rfl
set_option maxRecDepth 100000 in
theorem b_X8_essential_14 : (fun (v1 : Int32) (M : Mem) (a1 : (Int64 × Int32)) (w1 : Int32) => run C_X8_essential 2 (98, [some (.ref 19), some (.int v1), some (.long a1.1), none, some (.int a1.2), some (.int (0 : Int32))], [.int w1, .long a1.1], (sI M 19 15 (if (d_X8_isSet v1 M) = 0 then (1 : Int32) else (0 : Int32))), 0)) = (fun (v1 : Int32) (M : Mem) (a1 : (Int64 × Int32)) (w1 : Int32) => some (.inl ((br (!decide (w1 = (-1 : Int32))) 99 3 (10)), [some (.ref 19), some (.int v1), some (.long a1.1), none, some (.int a1.2), some (.int (0 : Int32))], [.long a1.1], (sI M 19 15 (if (d_X8_isSet v1 M) = 0 then (1 : Int32) else (0 : Int32))), 0))) := by rfl
set_option maxRecDepth 100000 in
theorem b_X8_essential_15 : (fun (v1 : Int32) (M : Mem) (a1 : (Int64 × Int32)) => run C_X8_essential 1 (109, [some (.ref 19), some (.int v1), some (.long a1.1), none, some (.int a1.2), some (.int (0 : Int32))], [.long a1.1], (sI M 19 15 (if (d_X8_isSet v1 M) = 0 then (1 : Int32) else (0 : Int32))), 0)) = (fun (v1 : Int32) (M : Mem) (a1 : (Int64 × Int32)) => some (.inl (110, [some (.ref 19), some (.int v1), some (.long a1.1), none, some (.int a1.2), some (.int (0 : Int32))], [.long (0 : Int64), .long a1.1], (sI M 19 15 (if (d_X8_isSet v1 M) = 0 then (1 : Int32) else (0 : Int32))), 0))) := by rfl
set_option maxRecDepth 100000 in
theorem b_X8_essential_16 : (fun (v1 : Int32) (M : Mem) (a1 : (Int64 × Int32)) => run C_X8_essential 4 (102, [some (.ref 19), some (.int v1), some (.long a1.1), none, some (.int a1.2), some (.int (0 : Int32))], [.long a1.1], (sI M 19 15 (if (d_X8_isSet v1 M) = 0 then (1 : Int32) else (0 : Int32))), 0)) = (fun (v1 : Int32) (M : Mem) (a1 : (Int64 × Int32)) => some (.inl (110, [some (.ref 19), some (.int v1), some (.long a1.1), none, some (.int a1.2), some (.int (0 : Int32))], [.long (jshl (1 : Int64) a1.2), .long a1.1], (sI M 19 15 (if (d_X8_isSet v1 M) = 0 then (1 : Int32) else (0 : Int32))), 0))) := by rfl
theorem m_X8_essential_1 (v1 : Int32) (M : Mem) (a1 : (Int64 × Int32)) (w1 : Int32) : Rto C_X8_essential (98, [some (.ref 19), some (.int v1), some (.long a1.1), none, some (.int a1.2), some (.int (0 : Int32))], [.int w1, .long a1.1], (sI M 19 15 (if (d_X8_isSet v1 M) = 0 then (1 : Int32) else (0 : Int32))), 0) (110, [some (.ref 19), some (.int v1), some (.long a1.1), none, some (.int a1.2), some (.int (0 : Int32))], [.long (if w1 = (-1 : Int32) then (jshl (1 : Int64) a1.2) else (0 : Int64)), .long a1.1], (sI M 19 15 (if (d_X8_isSet v1 M) = 0 then (1 : Int32) else (0 : Int32))), 0) := by
  refine Rto.trans (Rto.run 2 (congrFun (congrFun (congrFun (congrFun b_X8_essential_14 v1) M) a1) w1)) ?_
  by_cases h : w1 = (-1 : Int32)
  · refine Rto.trans (Rto.brNF (q := 102) h rfl) ?_
    refine Rto.trans (Rto.run 4 (congrFun (congrFun (congrFun b_X8_essential_16 v1) M) a1)) ?_
    exact Rto.eq (by first | (simp only [if_pos h]; done) | rfl | exact absurd rfl h | (simp; done))
  · refine Rto.trans (Rto.brNT (q := 109) h rfl) ?_
    refine Rto.trans (Rto.run 1 (congrFun (congrFun (congrFun b_X8_essential_15 v1) M) a1)) ?_
    exact Rto.eq (by first | (simp only [if_neg h]; done) | rfl | exact absurd rfl h | (simp; done))
set_option maxRecDepth 100000 in
theorem b_X8_essential_17 : (fun (v1 : Int32) (M : Mem) (a1 : (Int64 × Int32)) (w1 : Int32) => run C_X8_essential 4 (110, [some (.ref 19), some (.int v1), some (.long a1.1), none, some (.int a1.2), some (.int (0 : Int32))], [.long (if w1 = (-1 : Int32) then (jshl (1 : Int64) a1.2) else (0 : Int64)), .long a1.1], (sI M 19 15 (if (d_X8_isSet v1 M) = 0 then (1 : Int32) else (0 : Int32))), 0)) = (fun (v1 : Int32) (M : Mem) (a1 : (Int64 × Int32)) (w1 : Int32) => some (.inl (22, [some (.ref 19), some (.int v1), some (.long (a1.1 ||| (if w1 = (-1 : Int32) then (jshl (1 : Int64) a1.2) else (0 : Int64)))), none, some (.int (a1.2 + (1 : Int32))), some (.int (0 : Int32))], [], (sI M 19 15 (if (d_X8_isSet v1 M) = 0 then (1 : Int32) else (0 : Int32))), 0))) := by rfl
set_option maxRecDepth 100000 in
theorem b_X8_essential_18 : (fun (v1 : Int32) (M : Mem) (a1 : (Int64 × Int32)) => run C_X8_essential 4 (52, [some (.ref 19), some (.int v1), some (.long a1.1), none, some (.int a1.2), none], [], (sI M 19 15 (if (d_X8_isSet v1 M) = 0 then (1 : Int32) else (0 : Int32))), 0)) = (fun (v1 : Int32) (M : Mem) (a1 : (Int64 × Int32)) => some (.inl (58, [some (.ref 19), some (.int v1), some (.long a1.1), none, some (.int a1.2), none], [.int v1, .ref 20, .ref 19], (sI M 19 15 (if (d_X8_isSet v1 M) = 0 then (1 : Int32) else (0 : Int32))), 0))) := by rfl
set_option maxRecDepth 100000 in
theorem b_X8_essential_19 : (fun (v1 : Int32) (M : Mem) (a1 : (Int64 × Int32)) => stp C_X8_essential (58, [some (.ref 19), some (.int v1), some (.long a1.1), none, some (.int a1.2), none], [.int v1, .ref 20, .ref 19], (sI M 19 15 (if (d_X8_isSet v1 M) = 0 then (1 : Int32) else (0 : Int32))), 0)) = (fun (v1 : Int32) (M : Mem) (a1 : (Int64 × Int32)) => (if inb v1 30 = true then some (.inl (59, [some (.ref 19), some (.int v1), some (.long a1.1), none, some (.int a1.2), none], [.long (M.2 20 (ix v1)), .ref 19], (sI M 19 15 (if (d_X8_isSet v1 M) = 0 then (1 : Int32) else (0 : Int32))), 0)) else none)) := by rfl
set_option maxRecDepth 100000 in
theorem b_X8_essential_20 : (fun (v1 : Int32) (M : Mem) (a1 : (Int64 × Int32)) (w2 : Int32) => run C_X8_essential 2 (62, [some (.ref 19), some (.int v1), some (.long a1.1), none, some (.int a1.2), none], [.int w2], (sI M 19 15 (if (d_X8_isSet v1 M) = 0 then (1 : Int32) else (0 : Int32))), 0)) = (fun (v1 : Int32) (M : Mem) (a1 : (Int64 × Int32)) (w2 : Int32) => some (.inl ((br (decide (w2 = (-1 : Int32))) 63 3 (7)), [some (.ref 19), some (.int v1), some (.long a1.1), none, some (.int a1.2), none], [], (sI M 19 15 (if (d_X8_isSet v1 M) = 0 then (1 : Int32) else (0 : Int32))), 0))) := by rfl
set_option maxRecDepth 100000 in
theorem b_X8_essential_21 : (fun (v1 : Int32) (M : Mem) (a1 : (Int64 × Int32)) => run C_X8_essential 1 (70, [some (.ref 19), some (.int v1), some (.long a1.1), none, some (.int a1.2), none], [], (sI M 19 15 (if (d_X8_isSet v1 M) = 0 then (1 : Int32) else (0 : Int32))), 0)) = (fun (v1 : Int32) (M : Mem) (a1 : (Int64 × Int32)) => some (.inl (71, [some (.ref 19), some (.int v1), some (.long a1.1), none, some (.int a1.2), none], [.int (0 : Int32)], (sI M 19 15 (if (d_X8_isSet v1 M) = 0 then (1 : Int32) else (0 : Int32))), 0))) := by rfl
set_option maxRecDepth 100000 in
theorem b_X8_essential_22 : (fun (v1 : Int32) (M : Mem) (a1 : (Int64 × Int32)) => run C_X8_essential 2 (66, [some (.ref 19), some (.int v1), some (.long a1.1), none, some (.int a1.2), none], [], (sI M 19 15 (if (d_X8_isSet v1 M) = 0 then (1 : Int32) else (0 : Int32))), 0)) = (fun (v1 : Int32) (M : Mem) (a1 : (Int64 × Int32)) => some (.inl (71, [some (.ref 19), some (.int v1), some (.long a1.1), none, some (.int a1.2), none], [.int (1 : Int32)], (sI M 19 15 (if (d_X8_isSet v1 M) = 0 then (1 : Int32) else (0 : Int32))), 0))) := by rfl
theorem m_X8_essential_2 (v1 : Int32) (M : Mem) (a1 : (Int64 × Int32)) (w2 : Int32) : Rto C_X8_essential (62, [some (.ref 19), some (.int v1), some (.long a1.1), none, some (.int a1.2), none], [.int w2], (sI M 19 15 (if (d_X8_isSet v1 M) = 0 then (1 : Int32) else (0 : Int32))), 0) (71, [some (.ref 19), some (.int v1), some (.long a1.1), none, some (.int a1.2), none], [.int (if w2 = (-1 : Int32) then (0 : Int32) else (1 : Int32))], (sI M 19 15 (if (d_X8_isSet v1 M) = 0 then (1 : Int32) else (0 : Int32))), 0) := by
  refine Rto.trans (Rto.run 2 (congrFun (congrFun (congrFun (congrFun b_X8_essential_20 v1) M) a1) w2)) ?_
  by_cases h : w2 = (-1 : Int32)
  · refine Rto.trans (Rto.brT (q := 70) h rfl) ?_
    refine Rto.trans (Rto.run 1 (congrFun (congrFun (congrFun b_X8_essential_21 v1) M) a1)) ?_
    exact Rto.eq (by first | (simp only [if_pos h]; done) | rfl | exact absurd rfl h | (simp; done))
  · refine Rto.trans (Rto.brF (q := 66) h rfl) ?_
    refine Rto.trans (Rto.run 2 (congrFun (congrFun (congrFun b_X8_essential_22 v1) M) a1)) ?_
    exact Rto.eq (by first | (simp only [if_neg h]; done) | rfl | exact absurd rfl h | (simp; done))
set_option maxRecDepth 100000 in
theorem b_X8_essential_23 : (fun (v1 : Int32) (M : Mem) (a1 : (Int64 × Int32)) (w2 : Int32) => run C_X8_essential 4 (71, [some (.ref 19), some (.int v1), some (.long a1.1), none, some (.int a1.2), none], [.int (if w2 = (-1 : Int32) then (0 : Int32) else (1 : Int32))], (sI M 19 15 (if (d_X8_isSet v1 M) = 0 then (1 : Int32) else (0 : Int32))), 0)) = (fun (v1 : Int32) (M : Mem) (a1 : (Int64 × Int32)) (w2 : Int32) => some (.inl ((br (decide ((if w2 = (-1 : Int32) then (0 : Int32) else (1 : Int32)) = 0)) 76 3 (33)), [some (.ref 19), some (.int v1), some (.long a1.1), none, some (.int a1.2), some (.int (if w2 = (-1 : Int32) then (0 : Int32) else (1 : Int32)))], [.long a1.1], (sI M 19 15 (if (d_X8_isSet v1 M) = 0 then (1 : Int32) else (0 : Int32))), 0))) := by rfl
set_option maxRecDepth 100000 in
theorem b_X8_essential_24 : (fun (v1 : Int32) (M : Mem) (a1 : (Int64 × Int32)) (w2 : Int32) => run C_X8_essential 5 (109, [some (.ref 19), some (.int v1), some (.long a1.1), none, some (.int a1.2), some (.int (if w2 = (-1 : Int32) then (0 : Int32) else (1 : Int32)))], [.long a1.1], (sI M 19 15 (if (d_X8_isSet v1 M) = 0 then (1 : Int32) else (0 : Int32))), 0)) = (fun (v1 : Int32) (M : Mem) (a1 : (Int64 × Int32)) (w2 : Int32) => some (.inl (22, [some (.ref 19), some (.int v1), some (.long (a1.1 ||| (0 : Int64))), none, some (.int (a1.2 + (1 : Int32))), some (.int (if w2 = (-1 : Int32) then (0 : Int32) else (1 : Int32)))], [], (sI M 19 15 (if (d_X8_isSet v1 M) = 0 then (1 : Int32) else (0 : Int32))), 0))) := by rfl
set_option maxRecDepth 100000 in
theorem b_X8_essential_25 : (fun (v1 : Int32) (M : Mem) (a1 : (Int64 × Int32)) (w2 : Int32) => run C_X8_essential 4 (79, [some (.ref 19), some (.int v1), some (.long a1.1), none, some (.int a1.2), some (.int (if w2 = (-1 : Int32) then (0 : Int32) else (1 : Int32)))], [.long a1.1], (sI M 19 15 (if (d_X8_isSet v1 M) = 0 then (1 : Int32) else (0 : Int32))), 0)) = (fun (v1 : Int32) (M : Mem) (a1 : (Int64 × Int32)) (w2 : Int32) => some (.inl (85, [some (.ref 19), some (.int v1), some (.long a1.1), none, some (.int a1.2), some (.int (if w2 = (-1 : Int32) then (0 : Int32) else (1 : Int32)))], [.int v1, .ref 20, .ref 19, .long a1.1], (sI M 19 15 (if (d_X8_isSet v1 M) = 0 then (1 : Int32) else (0 : Int32))), 0))) := by rfl
set_option maxRecDepth 100000 in
theorem b_X8_essential_26 : (fun (v1 : Int32) (M : Mem) (a1 : (Int64 × Int32)) (w2 : Int32) => stp C_X8_essential (85, [some (.ref 19), some (.int v1), some (.long a1.1), none, some (.int a1.2), some (.int (if w2 = (-1 : Int32) then (0 : Int32) else (1 : Int32)))], [.int v1, .ref 20, .ref 19, .long a1.1], (sI M 19 15 (if (d_X8_isSet v1 M) = 0 then (1 : Int32) else (0 : Int32))), 0)) = (fun (v1 : Int32) (M : Mem) (a1 : (Int64 × Int32)) (w2 : Int32) => (if inb v1 30 = true then some (.inl (86, [some (.ref 19), some (.int v1), some (.long a1.1), none, some (.int a1.2), some (.int (if w2 = (-1 : Int32) then (0 : Int32) else (1 : Int32)))], [.long (M.2 20 (ix v1)), .ref 19, .long a1.1], (sI M 19 15 (if (d_X8_isSet v1 M) = 0 then (1 : Int32) else (0 : Int32))), 0)) else none)) := by rfl
set_option maxRecDepth 100000 in
theorem b_X8_essential_27 : (fun (v1 : Int32) (M : Mem) (a1 : (Int64 × Int32)) (w2 : Int32) => run C_X8_essential 6 (86, [some (.ref 19), some (.int v1), some (.long a1.1), none, some (.int a1.2), some (.int (if w2 = (-1 : Int32) then (0 : Int32) else (1 : Int32)))], [.long (M.2 20 (ix v1)), .ref 19, .long a1.1], (sI M 19 15 (if (d_X8_isSet v1 M) = 0 then (1 : Int32) else (0 : Int32))), 0)) = (fun (v1 : Int32) (M : Mem) (a1 : (Int64 × Int32)) (w2 : Int32) => some (.inl (95, [some (.ref 19), some (.int v1), some (.long a1.1), none, some (.int a1.2), some (.int (if w2 = (-1 : Int32) then (0 : Int32) else (1 : Int32)))], [.long ((M.2 20 (ix v1)) &&& ((jshl (1 : Int64) a1.2) ^^^ (-1 : Int64))), .ref 19, .long a1.1], (sI M 19 15 (if (d_X8_isSet v1 M) = 0 then (1 : Int32) else (0 : Int32))), 0))) := by rfl
set_option maxRecDepth 100000 in
theorem b_X8_essential_28 : (fun (v1 : Int32) (M : Mem) (a1 : (Int64 × Int32)) (w2 : Int32) (w3 : Int32) => run C_X8_essential 2 (98, [some (.ref 19), some (.int v1), some (.long a1.1), none, some (.int a1.2), some (.int (if w2 = (-1 : Int32) then (0 : Int32) else (1 : Int32)))], [.int w3, .long a1.1], (sI M 19 15 (if (d_X8_isSet v1 M) = 0 then (1 : Int32) else (0 : Int32))), 0)) = (fun (v1 : Int32) (M : Mem) (a1 : (Int64 × Int32)) (w2 : Int32) (w3 : Int32) => some (.inl ((br (!decide (w3 = (-1 : Int32))) 99 3 (10)), [some (.ref 19), some (.int v1), some (.long a1.1), none, some (.int a1.2), some (.int (if w2 = (-1 : Int32) then (0 : Int32) else (1 : Int32)))], [.long a1.1], (sI M 19 15 (if (d_X8_isSet v1 M) = 0 then (1 : Int32) else (0 : Int32))), 0))) := by rfl
set_option maxRecDepth 100000 in
theorem b_X8_essential_29 : (fun (v1 : Int32) (M : Mem) (a1 : (Int64 × Int32)) (w2 : Int32) => run C_X8_essential 1 (109, [some (.ref 19), some (.int v1), some (.long a1.1), none, some (.int a1.2), some (.int (if w2 = (-1 : Int32) then (0 : Int32) else (1 : Int32)))], [.long a1.1], (sI M 19 15 (if (d_X8_isSet v1 M) = 0 then (1 : Int32) else (0 : Int32))), 0)) = (fun (v1 : Int32) (M : Mem) (a1 : (Int64 × Int32)) (w2 : Int32) => some (.inl (110, [some (.ref 19), some (.int v1), some (.long a1.1), none, some (.int a1.2), some (.int (if w2 = (-1 : Int32) then (0 : Int32) else (1 : Int32)))], [.long (0 : Int64), .long a1.1], (sI M 19 15 (if (d_X8_isSet v1 M) = 0 then (1 : Int32) else (0 : Int32))), 0))) := by rfl
set_option maxRecDepth 100000 in
theorem b_X8_essential_30 : (fun (v1 : Int32) (M : Mem) (a1 : (Int64 × Int32)) (w2 : Int32) => run C_X8_essential 4 (102, [some (.ref 19), some (.int v1), some (.long a1.1), none, some (.int a1.2), some (.int (if w2 = (-1 : Int32) then (0 : Int32) else (1 : Int32)))], [.long a1.1], (sI M 19 15 (if (d_X8_isSet v1 M) = 0 then (1 : Int32) else (0 : Int32))), 0)) = (fun (v1 : Int32) (M : Mem) (a1 : (Int64 × Int32)) (w2 : Int32) => some (.inl (110, [some (.ref 19), some (.int v1), some (.long a1.1), none, some (.int a1.2), some (.int (if w2 = (-1 : Int32) then (0 : Int32) else (1 : Int32)))], [.long (jshl (1 : Int64) a1.2), .long a1.1], (sI M 19 15 (if (d_X8_isSet v1 M) = 0 then (1 : Int32) else (0 : Int32))), 0))) := by rfl
theorem m_X8_essential_3 (v1 : Int32) (M : Mem) (a1 : (Int64 × Int32)) (w2 : Int32) (w3 : Int32) : Rto C_X8_essential (98, [some (.ref 19), some (.int v1), some (.long a1.1), none, some (.int a1.2), some (.int (if w2 = (-1 : Int32) then (0 : Int32) else (1 : Int32)))], [.int w3, .long a1.1], (sI M 19 15 (if (d_X8_isSet v1 M) = 0 then (1 : Int32) else (0 : Int32))), 0) (110, [some (.ref 19), some (.int v1), some (.long a1.1), none, some (.int a1.2), some (.int (if w2 = (-1 : Int32) then (0 : Int32) else (1 : Int32)))], [.long (if w3 = (-1 : Int32) then (jshl (1 : Int64) a1.2) else (0 : Int64)), .long a1.1], (sI M 19 15 (if (d_X8_isSet v1 M) = 0 then (1 : Int32) else (0 : Int32))), 0) := by
  refine Rto.trans (Rto.run 2 (congrFun (congrFun (congrFun (congrFun (congrFun b_X8_essential_28 v1) M) a1) w2) w3)) ?_
  by_cases h : w3 = (-1 : Int32)
  · refine Rto.trans (Rto.brNF (q := 102) h rfl) ?_
    refine Rto.trans (Rto.run 4 (congrFun (congrFun (congrFun (congrFun b_X8_essential_30 v1) M) a1) w2)) ?_
    exact Rto.eq (by first | (simp only [if_pos h]; done) | rfl | exact absurd rfl h | (simp; done))
  · refine Rto.trans (Rto.brNT (q := 109) h rfl) ?_
    refine Rto.trans (Rto.run 1 (congrFun (congrFun (congrFun (congrFun b_X8_essential_29 v1) M) a1) w2)) ?_
    exact Rto.eq (by first | (simp only [if_neg h]; done) | rfl | exact absurd rfl h | (simp; done))
set_option maxRecDepth 100000 in
theorem b_X8_essential_31 : (fun (v1 : Int32) (M : Mem) (a1 : (Int64 × Int32)) (w2 : Int32) (w3 : Int32) => run C_X8_essential 4 (110, [some (.ref 19), some (.int v1), some (.long a1.1), none, some (.int a1.2), some (.int (if w2 = (-1 : Int32) then (0 : Int32) else (1 : Int32)))], [.long (if w3 = (-1 : Int32) then (jshl (1 : Int64) a1.2) else (0 : Int64)), .long a1.1], (sI M 19 15 (if (d_X8_isSet v1 M) = 0 then (1 : Int32) else (0 : Int32))), 0)) = (fun (v1 : Int32) (M : Mem) (a1 : (Int64 × Int32)) (w2 : Int32) (w3 : Int32) => some (.inl (22, [some (.ref 19), some (.int v1), some (.long (a1.1 ||| (if w3 = (-1 : Int32) then (jshl (1 : Int64) a1.2) else (0 : Int64)))), none, some (.int (a1.2 + (1 : Int32))), some (.int (if w2 = (-1 : Int32) then (0 : Int32) else (1 : Int32)))], [], (sI M 19 15 (if (d_X8_isSet v1 M) = 0 then (1 : Int32) else (0 : Int32))), 0))) := by rfl
def g_X8_essential_1 (v1 : Int32) (M : Mem) : Int64 × Int32 → Option ((Int64 × Int32) ⊕ ((Int64 × Int32) ⊕ (Res × Mem))) := fun (a1 : Int64 × Int32) => (if a1.2 < (d_X8_size (sI M 19 15 (if (d_X8_isSet v1 M) = 0 then (1 : Int32) else (0 : Int32)))) then (if (if (d_X8_isSet v1 M) = 0 then (1 : Int32) else (0 : Int32)) = 0 then (if inb v1 30 = true then (if (d_X8_has (M.2 20 (ix v1)) a1.2) = 0 then (if (0 : Int32) = 0 then some (.inl ((a1.1 ||| (0 : Int64)), (a1.2 + (1 : Int32)))) else (if inb v1 30 = true then ((d_X8_orderOf ((M.2 20 (ix v1)) &&& ((jshl (1 : Int64) a1.2) ^^^ (-1 : Int64))) (sI M 19 15 (if (d_X8_isSet v1 M) = 0 then (1 : Int32) else (0 : Int32)))).bind fun w1 => some (.inl ((a1.1 ||| (if w1 = (-1 : Int32) then (jshl (1 : Int64) a1.2) else (0 : Int64))), (a1.2 + (1 : Int32))))) else none)) else (if inb v1 30 = true then ((d_X8_orderOf (M.2 20 (ix v1)) (sI M 19 15 (if (d_X8_isSet v1 M) = 0 then (1 : Int32) else (0 : Int32)))).bind fun w2 => (if (if w2 = (-1 : Int32) then (0 : Int32) else (1 : Int32)) = 0 then some (.inl ((a1.1 ||| (0 : Int64)), (a1.2 + (1 : Int32)))) else (if inb v1 30 = true then ((d_X8_orderOf ((M.2 20 (ix v1)) &&& ((jshl (1 : Int64) a1.2) ^^^ (-1 : Int64))) (sI M 19 15 (if (d_X8_isSet v1 M) = 0 then (1 : Int32) else (0 : Int32)))).bind fun w3 => some (.inl ((a1.1 ||| (if w3 = (-1 : Int32) then (jshl (1 : Int64) a1.2) else (0 : Int64))), (a1.2 + (1 : Int32))))) else none))) else none)) else none) else some (.inr (.inl (a1.1, a1.2)))) else some (.inr (.inl (a1.1, a1.2))))
set_option maxHeartbeats 2000000 in
theorem l_X8_essential_1 (v1 : Int32) (M : Mem) : ∀ a1 : Int64 × Int32, RG C_X8_essential ((fun (a1 : Int64 × Int32) => (22, [some (.ref 19), some (.int v1), some (.long a1.1), none, some (.int a1.2), none], [], (sI M 19 15 (if (d_X8_isSet v1 M) = 0 then (1 : Int32) else (0 : Int32))), 0)) a1) (g_X8_essential_1 v1 M a1) (lpP (fun (a1 : Int64 × Int32) => (22, [some (.ref 19), some (.int v1), some (.long a1.1), none, some (.int a1.2), none], [], (sI M 19 15 (if (d_X8_isSet v1 M) = 0 then (1 : Int32) else (0 : Int32))), 0)) (fun (a1 : Int64 × Int32) => (118, [some (.ref 19), some (.int v1), some (.long a1.1), none, some (.int a1.2), none], [], (sI M 19 15 (if (d_X8_isSet v1 M) = 0 then (1 : Int32) else (0 : Int32))), 0)) id) := by
  intro a1
  unfold g_X8_essential_1
  show RG C_X8_essential (22, [some (.ref 19), some (.int v1), some (.long a1.1), none, some (.int a1.2), none], [], (sI M 19 15 (if (d_X8_isSet v1 M) = 0 then (1 : Int32) else (0 : Int32))), 0) _ _
  refine RG.st 4 (congrFun (congrFun (congrFun b_X8_essential_4 v1) M) a1) ?_
  refine RG.ite (fun h1 => RG.brNF (q := 31) h1 rfl ?_) (fun h1 => RG.brNT (q := 118) h1 rfl ?_)
  · refine RG.st 3 (congrFun (congrFun (congrFun b_X8_essential_5 v1) M) a1) ?_
    refine RG.ite (fun h2 => RG.brNF (q := 38) h2 rfl ?_) (fun h2 => RG.brNT (q := 118) h2 rfl ?_)
    · refine RG.st 3 (congrFun (congrFun (congrFun b_X8_essential_6 v1) M) a1) ?_
      refine RG.guard (fun h3 => RG.st 1 (stp_g h3 (congrFun (congrFun (congrFun b_X8_essential_7 v1) M) a1)) ?_)
      refine RG.st 3 (congrFun (congrFun (congrFun b_X8_essential_8 v1) M) a1) ?_
      refine RG.ite (fun h4 => RG.brT (q := 70) h4 rfl ?_) (fun h4 => RG.brF (q := 52) h4 rfl ?_)
      · refine RG.st 5 (congrFun (congrFun (congrFun b_X8_essential_9 v1) M) a1) ?_
        refine RG.ite (fun h5 => RG.brT (q := 109) h5 rfl ?_) (fun h5 => RG.brF (q := 79) h5 rfl ?_)
        · refine RG.st 5 (congrFun (congrFun (congrFun b_X8_essential_10 v1) M) a1) ?_
          exact RG.to rfl (Rto.fgt [5] rfl)
        · refine RG.st 4 (congrFun (congrFun (congrFun b_X8_essential_11 v1) M) a1) ?_
          refine RG.guard (fun h6 => RG.st 1 (stp_g h6 (congrFun (congrFun (congrFun b_X8_essential_12 v1) M) a1)) ?_)
          refine RG.st 6 (congrFun (congrFun (congrFun b_X8_essential_13 v1) M) a1) ?_
          refine RG.bind (fun w1 h7 => RG.st 1 (run_callV (v := some (.int w1)) rfl rfl rfl rfl rfl (bindI h7)) ?_)
          show RG C_X8_essential (98, [some (.ref 19), some (.int v1), some (.long a1.1), none, some (.int a1.2), some (.int (0 : Int32))], [.int w1, .long a1.1], (sI M 19 15 (if (d_X8_isSet v1 M) = 0 then (1 : Int32) else (0 : Int32))), 0) _ _
          refine RG.step (m_X8_essential_1 v1 M a1 w1) ?_
          refine RG.st 4 (congrFun (congrFun (congrFun (congrFun b_X8_essential_17 v1) M) a1) w1) ?_
          exact RG.to rfl (Rto.fgt [5] rfl)
      · refine RG.st 4 (congrFun (congrFun (congrFun b_X8_essential_18 v1) M) a1) ?_
        refine RG.guard (fun h8 => RG.st 1 (stp_g h8 (congrFun (congrFun (congrFun b_X8_essential_19 v1) M) a1)) ?_)
        refine RG.bind (fun w2 h9 => RG.st 1 (run_callV (v := some (.int w2)) rfl rfl rfl rfl rfl (bindI h9)) ?_)
        show RG C_X8_essential (62, [some (.ref 19), some (.int v1), some (.long a1.1), none, some (.int a1.2), none], [.int w2], (sI M 19 15 (if (d_X8_isSet v1 M) = 0 then (1 : Int32) else (0 : Int32))), 0) _ _
        refine RG.step (m_X8_essential_2 v1 M a1 w2) ?_
        refine RG.st 4 (congrFun (congrFun (congrFun (congrFun b_X8_essential_23 v1) M) a1) w2) ?_
        refine RG.ite (fun h10 => RG.brT (q := 109) h10 rfl ?_) (fun h10 => RG.brF (q := 79) h10 rfl ?_)
        · refine RG.st 5 (congrFun (congrFun (congrFun (congrFun b_X8_essential_24 v1) M) a1) w2) ?_
          exact RG.to rfl (Rto.fgt [5] rfl)
        · refine RG.st 4 (congrFun (congrFun (congrFun (congrFun b_X8_essential_25 v1) M) a1) w2) ?_
          refine RG.guard (fun h11 => RG.st 1 (stp_g h11 (congrFun (congrFun (congrFun (congrFun b_X8_essential_26 v1) M) a1) w2)) ?_)
          refine RG.st 6 (congrFun (congrFun (congrFun (congrFun b_X8_essential_27 v1) M) a1) w2) ?_
          refine RG.bind (fun w3 h12 => RG.st 1 (run_callV (v := some (.int w3)) rfl rfl rfl rfl rfl (bindI h12)) ?_)
          show RG C_X8_essential (98, [some (.ref 19), some (.int v1), some (.long a1.1), none, some (.int a1.2), some (.int (if w2 = (-1 : Int32) then (0 : Int32) else (1 : Int32)))], [.int w3, .long a1.1], (sI M 19 15 (if (d_X8_isSet v1 M) = 0 then (1 : Int32) else (0 : Int32))), 0) _ _
          refine RG.step (m_X8_essential_3 v1 M a1 w2 w3) ?_
          refine RG.st 4 (congrFun (congrFun (congrFun (congrFun (congrFun b_X8_essential_31 v1) M) a1) w2) w3) ?_
          exact RG.to rfl (Rto.fgt [5] rfl)
    · exact RG.to rfl (Rto.refl _)
  · exact RG.to rfl (Rto.refl _)
set_option maxRecDepth 100000 in
theorem b_X8_essential_32 : (fun (v1 : Int32) (M : Mem) (a2 : (Int64 × Int32)) => run C_X8_essential 2 (118, [some (.ref 19), some (.int v1), some (.long a2.1), none, some (.int a2.2), none], [], (sI M 19 15 (if (d_X8_isSet v1 M) = 0 then (1 : Int32) else (0 : Int32))), 0)) = (fun (v1 : Int32) (M : Mem) (a2 : (Int64 × Int32)) => some (.inr (.inl (some (.long a2.1)), (sI M 19 15 (if (d_X8_isSet v1 M) = 0 then (1 : Int32) else (0 : Int32))), 0))) := by rfl
def d_X8_essential (v1 : Int32) (M : Mem) : Option (Res × Mem) := (onIt (iter (g_X8_essential_1 v1 M) 20000 ((0 : Int64), (0 : Int32))) (fun (a2 : Int64 × Int32) => some (.inl (some (.long a2.1)), (sI M 19 15 (if (d_X8_isSet v1 M) = 0 then (1 : Int32) else (0 : Int32))))) (fun r => some r))
set_option maxHeartbeats 2000000 in
theorem r_X8_essential (v1 : Int32) (M : Mem) : RG C_X8_essential (0, [some (.ref 19), some (.int v1), none, none, none, none], [], M, 0) (d_X8_essential v1 M) (fun r => .inr r) := by
  unfold d_X8_essential
  refine RG.step (m_X8_essential_0 v1 M) ?_
  refine RG.st 5 (congrFun (congrFun b_X8_essential_3 v1) M) ?_
  refine RG.loop (hd := (fun (a1 : Int64 × Int32) => (22, [some (.ref 19), some (.int v1), some (.long a1.1), none, some (.int a1.2), none], [], (sI M 19 15 (if (d_X8_isSet v1 M) = 0 then (1 : Int32) else (0 : Int32))), 0))) (ex := (fun (a1 : Int64 × Int32) => (118, [some (.ref 19), some (.int v1), some (.long a1.1), none, some (.int a1.2), none], [], (sI M 19 15 (if (d_X8_isSet v1 M) = 0 then (1 : Int32) else (0 : Int32))), 0))) (rt := id) (l_X8_essential_1 v1 M) (fun a2 => ?_) (fun r v h => by cases h; rfl)
  show RG C_X8_essential (118, [some (.ref 19), some (.int v1), some (.long a2.1), none, some (.int a2.2), none], [], (sI M 19 15 (if (d_X8_isSet v1 M) = 0 then (1 : Int32) else (0 : Int32))), 0) _ _
  exact RG.fin rfl (Rend.run 2 (congrFun (congrFun (congrFun b_X8_essential_32 v1) M) a2))
def fn_X8_essential : Fn := fun av M => match av with
  | [.ref r0, .int v1] => bif Nat.beq r0 19 then (d_X8_essential v1 M) else (none)
  | _ => none
theorem cfg_X8_essential : CfgOK RX8 cX8_essential (C_X8_essential) 6 := ⟨tk_X8_essential, csF_nd, flk_X8, (List.forall_mem_cons.mpr ⟨Or.inr ⟨yX8_size, cX8_size, 1, (some .int), none, 1, ok_X8_size, by decide, by decide, w_code_SumsetryModel_size___I, w_initialized_SumsetryModel, ⟨by decide, by decide⟩, Or.inr (Or.inr ⟨rfl, rfl, show (parseMethodDescriptor yX8_size.desc).map (fun d => d.parameters.length + 1) = some 1 from by decide +kernel, w_methodLink_SumsetryModel_49, w_instanceMethod_SumsetryModel_size___I, w_selects_SumsetryModel_size___I, ⟨_, rfl, rfl⟩⟩)⟩,
    List.forall_mem_cons.mpr ⟨Or.inr ⟨yX8_has, cX8_has, 3, (some .boolean), none, 1, ok_X8_has, by decide, by decide, w_code_SumsetryModel_has__JI_Z, w_initialized_SumsetryModel, ⟨by decide, by decide⟩, Or.inl ⟨rfl, show (parseMethodDescriptor yX8_has.desc).map (fun d => d.parameters.length) = some 2 from by decide +kernel, w_methodLink_SumsetryModel_60, w_static_SumsetryModel_has__JI_Z⟩⟩,
    List.forall_mem_cons.mpr ⟨Or.inr ⟨yX8_isSet, cX8_isSet, 2, (some .boolean), none, 2, ok_X8_isSet, by decide, by decide, w_code_SumsetryModel_isSet__I_Z, w_initialized_SumsetryModel, ⟨by decide, by decide⟩, Or.inr (Or.inr ⟨rfl, rfl, show (parseMethodDescriptor yX8_isSet.desc).map (fun d => d.parameters.length + 1) = some 2 from by decide +kernel, w_methodLink_SumsetryModel_96, w_instanceMethod_SumsetryModel_isSet__I_Z, w_selects_SumsetryModel_isSet__I_Z, ⟨_, rfl, rfl⟩⟩)⟩,
    List.forall_mem_cons.mpr ⟨Or.inr ⟨yX8_orderOf, cX8_orderOf, 6, (some .int), none, 5, ok_X8_orderOf, by decide, by decide, w_code_SumsetryModel_orderOf__J_I, w_initialized_SumsetryModel, ⟨by decide, by decide⟩, Or.inr (Or.inr ⟨rfl, rfl, show (parseMethodDescriptor yX8_orderOf.desc).map (fun d => d.parameters.length + 1) = some 2 from by decide +kernel, w_methodLink_SumsetryModel_125, w_instanceMethod_SumsetryModel_orderOf__J_I, w_selects_SumsetryModel_orderOf__J_I, ⟨_, rfl, rfl⟩⟩)⟩, fun _ h => absurd h List.not_mem_nil⟩⟩⟩⟩), ink_X8, lgk_X8, fun e h => absurd h List.not_mem_nil, (fun h hh => absurd hh List.not_mem_nil)⟩
theorem ok_X8_essential : OkM csF yX8_essential (Cond.code yX8_essential cX8_essential 6 (some .long)) 6 0 fn_X8_essential :=
  OkM_of (own := RX8) (C := C_X8_essential) (by decide +kernel) rfl (cfg_X8_essential) rfl rfl rfl rfl (by
    intro av M o M' h
    unfold fn_X8_essential at h
    split at h
    · rename_i r0 v1
      rcases bif_cs h with ⟨hb, h⟩ | ⟨-, h⟩
      · skip
        have hr0 := hb
        obtain rfl := Nat.eq_of_beq_eq_true hr0
        exact ⟨rfl, Nat.le_of_ble_eq_true rfl, (r_X8_essential v1 M) (o, M') h⟩
      · cases h
    · cases h)
