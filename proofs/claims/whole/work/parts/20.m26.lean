/-! methods: X8_power, X8_isPrime, X8_orderBy, X8_root, X8_transformOf -/
def t_X8_power : List (Nat × Instr × Nat) := [(0, .lconst 1, 1), (1, .lstore_n 3, 1), (2, .iconst 0, 1), (3, .istore 5, 2), (5, .iload 5, 2), (7, .iload_n 2, 1), (8, .if_icmp .ge 20, 3), (11, .lload_n 3, 1), (12, .iload_n 1, 1), (13, .i2l, 1), (14, .lmul, 1), (15, .aload_n 0, 1), (16, .getfield 75, 3), (19, .i2l, 1), (20, .lrem, 1), (21, .lstore_n 3, 1), (22, .iinc 5 1, 3), (25, .goto (-20), 3), (28, .lload_n 3, 1), (29, .l2i, 1), (30, .ireturn, 1)]
theorem tk_X8_power : ∀ x ∈ t_X8_power, decode cX8_power x.1 = .ok x.2 := by decide +kernel
def C_X8_power : Cfg := (t_X8_power, csF, fl_X8, [], in_X8, lg_X8, [], [], none, (some .int), 0)
set_option maxRecDepth 100000 in
theorem b_X8_power_0 : (fun (v1 : Int32) (v2 : Int32) (M : Mem) => run C_X8_power 4 (0, [some (.ref 19), some (.int v1), some (.int v2), none, none, none], [], M, 0)) = (fun (v1 : Int32) (v2 : Int32) (M : Mem) => some (.inl (5, [some (.ref 19), some (.int v1), some (.int v2), some (.long (1 : Int64)), none, some (.int (0 : Int32))], [], M, 0))) := by rfl
set_option maxRecDepth 100000 in
theorem b_X8_power_1 : (fun (v1 : Int32) (v2 : Int32) (M : Mem) (a1 : (Int64 × Int32)) => run C_X8_power 3 (5, [some (.ref 19), some (.int v1), some (.int v2), some (.long a1.1), none, some (.int a1.2)], [], M, 0)) = (fun (v1 : Int32) (v2 : Int32) (M : Mem) (a1 : (Int64 × Int32)) => some (.inl ((br (!decide (a1.2 < v2)) 8 3 (20)), [some (.ref 19), some (.int v1), some (.int v2), some (.long a1.1), none, some (.int a1.2)], [], M, 0))) := by rfl
set_option maxRecDepth 100000 in
theorem b_X8_power_2 : (fun (v1 : Int32) (v2 : Int32) (M : Mem) (a1 : (Int64 × Int32)) => run C_X8_power 7 (11, [some (.ref 19), some (.int v1), some (.int v2), some (.long a1.1), none, some (.int a1.2)], [], M, 0)) = (fun (v1 : Int32) (v2 : Int32) (M : Mem) (a1 : (Int64 × Int32)) => some (.inl (20, [some (.ref 19), some (.int v1), some (.int v2), some (.long a1.1), none, some (.int a1.2)], [.long ((M.1 19 6).toInt64), .long (a1.1 * v1.toInt64)], M, 0))) := by rfl
set_option maxRecDepth 100000 in
theorem b_X8_power_3 : (fun (v1 : Int32) (v2 : Int32) (M : Mem) (a1 : (Int64 × Int32)) => stp C_X8_power (20, [some (.ref 19), some (.int v1), some (.int v2), some (.long a1.1), none, some (.int a1.2)], [.long ((M.1 19 6).toInt64), .long (a1.1 * v1.toInt64)], M, 0)) = (fun (v1 : Int32) (v2 : Int32) (M : Mem) (a1 : (Int64 × Int32)) => (if ((M.1 19 6).toInt64) = 0 then none else some (.inl (21, [some (.ref 19), some (.int v1), some (.int v2), some (.long a1.1), none, some (.int a1.2)], [.long (jlrem (a1.1 * v1.toInt64) ((M.1 19 6).toInt64))], M, 0)))) := by rfl
set_option maxRecDepth 100000 in
theorem b_X8_power_4 : (fun (v1 : Int32) (v2 : Int32) (M : Mem) (a1 : (Int64 × Int32)) => run C_X8_power 3 (21, [some (.ref 19), some (.int v1), some (.int v2), some (.long a1.1), none, some (.int a1.2)], [.long (jlrem (a1.1 * v1.toInt64) ((M.1 19 6).toInt64))], M, 0)) = (fun (v1 : Int32) (v2 : Int32) (M : Mem) (a1 : (Int64 × Int32)) => some (.inl (5, [some (.ref 19), some (.int v1), some (.int v2), some (.long (jlrem (a1.1 * v1.toInt64) ((M.1 19 6).toInt64))), none, some (.int (a1.2 + (1 : Int32)))], [], M, 0))) := by rfl
def g_X8_power_1 (v1 : Int32) (v2 : Int32) (M : Mem) : Int64 × Int32 → Option ((Int64 × Int32) ⊕ ((Int64 × Int32) ⊕ Int32)) := fun (a1 : Int64 × Int32) => (if a1.2 < v2 then (if ((M.1 19 6).toInt64) = 0 then none else some (.inl ((jlrem (a1.1 * v1.toInt64) ((M.1 19 6).toInt64)), (a1.2 + (1 : Int32))))) else some (.inr (.inl (a1.1, a1.2))))
set_option maxHeartbeats 2000000 in
theorem l_X8_power_1 (v1 : Int32) (v2 : Int32) (M : Mem) : ∀ a1 : Int64 × Int32, RG C_X8_power ((fun (a1 : Int64 × Int32) => (5, [some (.ref 19), some (.int v1), some (.int v2), some (.long a1.1), none, some (.int a1.2)], [], M, 0)) a1) (g_X8_power_1 v1 v2 M a1) (lpP (fun (a1 : Int64 × Int32) => (5, [some (.ref 19), some (.int v1), some (.int v2), some (.long a1.1), none, some (.int a1.2)], [], M, 0)) (fun (a1 : Int64 × Int32) => (28, [some (.ref 19), some (.int v1), some (.int v2), some (.long a1.1), none, some (.int a1.2)], [], M, 0)) (fun (v : Int32) => (.inl (some (.int v)), M))) := by
  intro a1
  unfold g_X8_power_1
  show RG C_X8_power (5, [some (.ref 19), some (.int v1), some (.int v2), some (.long a1.1), none, some (.int a1.2)], [], M, 0) _ _
  refine RG.st 3 (congrFun (congrFun (congrFun (congrFun b_X8_power_1 v1) v2) M) a1) ?_
  refine RG.ite (fun h1 => RG.brNF (q := 11) h1 rfl ?_) (fun h1 => RG.brNT (q := 28) h1 rfl ?_)
  · refine RG.st 7 (congrFun (congrFun (congrFun (congrFun b_X8_power_2 v1) v2) M) a1) ?_
    refine RG.guardN (fun h2 => RG.st 1 (stp_gN h2 (congrFun (congrFun (congrFun (congrFun b_X8_power_3 v1) v2) M) a1)) ?_)
    refine RG.st 3 (congrFun (congrFun (congrFun (congrFun b_X8_power_4 v1) v2) M) a1) ?_
    exact RG.to rfl (Rto.refl _)
  · exact RG.to rfl (Rto.refl _)
set_option maxRecDepth 100000 in
theorem b_X8_power_5 : (fun (v1 : Int32) (v2 : Int32) (M : Mem) (a2 : (Int64 × Int32)) => run C_X8_power 3 (28, [some (.ref 19), some (.int v1), some (.int v2), some (.long a2.1), none, some (.int a2.2)], [], M, 0)) = (fun (v1 : Int32) (v2 : Int32) (M : Mem) (a2 : (Int64 × Int32)) => some (.inr (.inl (some (.int a2.1.toInt32)), M, 0))) := by rfl
def d_X8_power (v1 : Int32) (v2 : Int32) (M : Mem) : Option Int32 := (onIt (iter (g_X8_power_1 v1 v2 M) 20000 ((1 : Int64), (0 : Int32))) (fun (a2 : Int64 × Int32) => some a2.1.toInt32) (fun r => some r))
set_option maxHeartbeats 2000000 in
theorem r_X8_power (v1 : Int32) (v2 : Int32) (M : Mem) : RG C_X8_power (0, [some (.ref 19), some (.int v1), some (.int v2), none, none, none], [], M, 0) (d_X8_power v1 v2 M) (fun v => .inr (.inl (some (.int v)), M)) := by
  unfold d_X8_power
  refine RG.st 4 (congrFun (congrFun (congrFun b_X8_power_0 v1) v2) M) ?_
  refine RG.loop (hd := (fun (a1 : Int64 × Int32) => (5, [some (.ref 19), some (.int v1), some (.int v2), some (.long a1.1), none, some (.int a1.2)], [], M, 0))) (ex := (fun (a1 : Int64 × Int32) => (28, [some (.ref 19), some (.int v1), some (.int v2), some (.long a1.1), none, some (.int a1.2)], [], M, 0))) (rt := (fun (v : Int32) => (.inl (some (.int v)), M))) (l_X8_power_1 v1 v2 M) (fun a2 => ?_) (fun r v h => by cases h; rfl)
  show RG C_X8_power (28, [some (.ref 19), some (.int v1), some (.int v2), some (.long a2.1), none, some (.int a2.2)], [], M, 0) _ _
  exact RG.fin rfl (Rend.run 3 (congrFun (congrFun (congrFun (congrFun b_X8_power_5 v1) v2) M) a2))
def fn_X8_power : Fn := fun av M => match av with
  | [.ref r0, .int v1, .int v2] => bif Nat.beq r0 19 then (d_X8_power v1 v2 M).bind fun v => some (.inl (some (.int v)), M) else (none)
  | _ => none
theorem cfg_X8_power : CfgOK RX8 cX8_power (C_X8_power) 1 := ⟨tk_X8_power, csF_nd, flk_X8, (fun e h => absurd h List.not_mem_nil), ink_X8, lgk_X8, fun e h => absurd h List.not_mem_nil, (fun h hh => absurd hh List.not_mem_nil)⟩
theorem ok_X8_power : OkM csF yX8_power (Cond.code yX8_power cX8_power 6 (some .int)) 1 0 fn_X8_power :=
  OkM_of (own := RX8) (C := C_X8_power) (by decide +kernel) rfl (cfg_X8_power) rfl rfl rfl rfl (by
    intro av M o M' h
    unfold fn_X8_power at h
    split at h
    · rename_i r0 v1 v2
      rcases bif_cs h with ⟨hb, h⟩ | ⟨-, h⟩
      · skip
        have hr0 := hb
        obtain rfl := Nat.eq_of_beq_eq_true hr0
        obtain ⟨w, hw, h⟩ := bind_cs h
        cases h
        exact ⟨rfl, Nat.le_of_ble_eq_true rfl, (r_X8_power v1 v2 M) w hw⟩
      · cases h
    · cases h)
def t_X8_isPrime : List (Nat × Instr × Nat) := [(0, .iload_n 0, 1), (1, .iconst 1, 1), (2, .if_icmp .le 7, 3), (5, .iconst 1, 1), (6, .goto 4, 3), (9, .iconst 0, 1), (10, .istore_n 1, 1), (11, .iconst 2, 1), (12, .istore_n 2, 1), (13, .iload_n 2, 1), (14, .iload_n 2, 1), (15, .imul, 1), (16, .iload_n 0, 1), (17, .if_icmp .gt 25, 3), (20, .iload_n 1, 1), (21, .ifCond .eq 21, 3), (24, .iload_n 0, 1), (25, .iload_n 2, 1), (26, .irem, 1), (27, .ifCond .eq 7, 3), (30, .iconst 1, 1), (31, .goto 4, 3), (34, .iconst 0, 1), (35, .istore_n 1, 1), (36, .iinc 2 1, 3), (39, .goto (-26), 3), (42, .iload_n 1, 1), (43, .ireturn, 1)]
theorem tk_X8_isPrime : ∀ x ∈ t_X8_isPrime, decode cX8_isPrime x.1 = .ok x.2 := by decide +kernel
def C_X8_isPrime : Cfg := (t_X8_isPrime, csF, fl_X8, [], in_X8, lg_X8, [], [], none, (some .boolean), 0)
set_option maxRecDepth 100000 in
theorem b_X8_isPrime_0 : (fun (v0 : Int32) (M : Mem) => run C_X8_isPrime 3 (0, [some (.int v0), none, none], [], M, 0)) = (fun (v0 : Int32) (M : Mem) => some (.inl ((br (decide (v0 ≤ (1 : Int32))) 2 3 (7)), [some (.int v0), none, none], [], M, 0))) := by rfl
set_option maxRecDepth 100000 in
theorem b_X8_isPrime_1 : (fun (v0 : Int32) (M : Mem) => run C_X8_isPrime 1 (9, [some (.int v0), none, none], [], M, 0)) = (fun (v0 : Int32) (M : Mem) => some (.inl (10, [some (.int v0), none, none], [.int (0 : Int32)], M, 0))) := by rfl
set_option maxRecDepth 100000 in
theorem b_X8_isPrime_2 : (fun (v0 : Int32) (M : Mem) => run C_X8_isPrime 2 (5, [some (.int v0), none, none], [], M, 0)) = (fun (v0 : Int32) (M : Mem) => some (.inl (10, [some (.int v0), none, none], [.int (1 : Int32)], M, 0))) := by rfl
theorem m_X8_isPrime_0 (v0 : Int32) (M : Mem) : Rto C_X8_isPrime (0, [some (.int v0), none, none], [], M, 0) (10, [some (.int v0), none, none], [.int (if v0 ≤ (1 : Int32) then (0 : Int32) else (1 : Int32))], M, 0) := by
  refine Rto.trans (Rto.run 3 (congrFun (congrFun b_X8_isPrime_0 v0) M)) ?_
  by_cases h : v0 ≤ (1 : Int32)
  · refine Rto.trans (Rto.brT (q := 9) h rfl) ?_
    refine Rto.trans (Rto.run 1 (congrFun (congrFun b_X8_isPrime_1 v0) M)) ?_
    exact Rto.eq (by first | (simp only [if_pos h]; done) | rfl | exact absurd rfl h | (simp; done))
  · refine Rto.trans (Rto.brF (q := 5) h rfl) ?_
    refine Rto.trans (Rto.run 2 (congrFun (congrFun b_X8_isPrime_2 v0) M)) ?_
    exact Rto.eq (by first | (simp only [if_neg h]; done) | rfl | exact absurd rfl h | (simp; done))
set_option maxRecDepth 100000 in
theorem b_X8_isPrime_3 : (fun (v0 : Int32) (M : Mem) => run C_X8_isPrime 3 (10, [some (.int v0), none, none], [.int (if v0 ≤ (1 : Int32) then (0 : Int32) else (1 : Int32))], M, 0)) = (fun (v0 : Int32) (M : Mem) => some (.inl (13, [some (.int v0), some (.int (if v0 ≤ (1 : Int32) then (0 : Int32) else (1 : Int32))), some (.int (2 : Int32))], [], M, 0))) := by rfl
set_option maxRecDepth 100000 in
theorem b_X8_isPrime_4 : (fun (v0 : Int32) (M : Mem) (a1 : (Int32 × Int32)) => run C_X8_isPrime 5 (13, [some (.int v0), some (.int a1.1), some (.int a1.2)], [], M, 0)) = (fun (v0 : Int32) (M : Mem) (a1 : (Int32 × Int32)) => some (.inl ((br (!decide ((a1.2 * a1.2) ≤ v0)) 17 3 (25)), [some (.int v0), some (.int a1.1), some (.int a1.2)], [], M, 0))) := by rfl
set_option maxRecDepth 100000 in
theorem b_X8_isPrime_5 : (fun (v0 : Int32) (M : Mem) (a1 : (Int32 × Int32)) => run C_X8_isPrime 2 (20, [some (.int v0), some (.int a1.1), some (.int a1.2)], [], M, 0)) = (fun (v0 : Int32) (M : Mem) (a1 : (Int32 × Int32)) => some (.inl ((br (decide (a1.1 = 0)) 21 3 (21)), [some (.int v0), some (.int a1.1), some (.int a1.2)], [], M, 0))) := by rfl
set_option maxRecDepth 100000 in
theorem b_X8_isPrime_6 : (fun (v0 : Int32) (M : Mem) (a1 : (Int32 × Int32)) => run C_X8_isPrime 2 (24, [some (.int v0), some (.int a1.1), some (.int a1.2)], [], M, 0)) = (fun (v0 : Int32) (M : Mem) (a1 : (Int32 × Int32)) => some (.inl (26, [some (.int v0), some (.int a1.1), some (.int a1.2)], [.int a1.2, .int v0], M, 0))) := by rfl
set_option maxRecDepth 100000 in
theorem b_X8_isPrime_7 : (fun (v0 : Int32) (M : Mem) (a1 : (Int32 × Int32)) => stp C_X8_isPrime (26, [some (.int v0), some (.int a1.1), some (.int a1.2)], [.int a1.2, .int v0], M, 0)) = (fun (v0 : Int32) (M : Mem) (a1 : (Int32 × Int32)) => (if a1.2 = 0 then none else some (.inl (27, [some (.int v0), some (.int a1.1), some (.int a1.2)], [.int (jrem v0 a1.2)], M, 0)))) := by rfl
set_option maxRecDepth 100000 in
theorem b_X8_isPrime_8 : (fun (v0 : Int32) (M : Mem) (a1 : (Int32 × Int32)) => run C_X8_isPrime 1 (27, [some (.int v0), some (.int a1.1), some (.int a1.2)], [.int (jrem v0 a1.2)], M, 0)) = (fun (v0 : Int32) (M : Mem) (a1 : (Int32 × Int32)) => some (.inl ((br (decide ((jrem v0 a1.2) = 0)) 27 3 (7)), [some (.int v0), some (.int a1.1), some (.int a1.2)], [], M, 0))) := by rfl
set_option maxRecDepth 100000 in
theorem b_X8_isPrime_9 : (fun (v0 : Int32) (M : Mem) (a1 : (Int32 × Int32)) => run C_X8_isPrime 1 (34, [some (.int v0), some (.int a1.1), some (.int a1.2)], [], M, 0)) = (fun (v0 : Int32) (M : Mem) (a1 : (Int32 × Int32)) => some (.inl (35, [some (.int v0), some (.int a1.1), some (.int a1.2)], [.int (0 : Int32)], M, 0))) := by rfl
set_option maxRecDepth 100000 in
theorem b_X8_isPrime_10 : (fun (v0 : Int32) (M : Mem) (a1 : (Int32 × Int32)) => run C_X8_isPrime 2 (30, [some (.int v0), some (.int a1.1), some (.int a1.2)], [], M, 0)) = (fun (v0 : Int32) (M : Mem) (a1 : (Int32 × Int32)) => some (.inl (35, [some (.int v0), some (.int a1.1), some (.int a1.2)], [.int (1 : Int32)], M, 0))) := by rfl
theorem m_X8_isPrime_1 (v0 : Int32) (M : Mem) (a1 : (Int32 × Int32)) : Rto C_X8_isPrime (27, [some (.int v0), some (.int a1.1), some (.int a1.2)], [.int (jrem v0 a1.2)], M, 0) (35, [some (.int v0), some (.int a1.1), some (.int a1.2)], [.int (if (jrem v0 a1.2) = 0 then (0 : Int32) else (1 : Int32))], M, 0) := by
  refine Rto.trans (Rto.run 1 (congrFun (congrFun (congrFun b_X8_isPrime_8 v0) M) a1)) ?_
  by_cases h : (jrem v0 a1.2) = 0
  · refine Rto.trans (Rto.brT (q := 34) h rfl) ?_
    refine Rto.trans (Rto.run 1 (congrFun (congrFun (congrFun b_X8_isPrime_9 v0) M) a1)) ?_
    exact Rto.eq (by first | (simp only [if_pos h]; done) | rfl | exact absurd rfl h | (simp; done))
  · refine Rto.trans (Rto.brF (q := 30) h rfl) ?_
    refine Rto.trans (Rto.run 2 (congrFun (congrFun (congrFun b_X8_isPrime_10 v0) M) a1)) ?_
    exact Rto.eq (by first | (simp only [if_neg h]; done) | rfl | exact absurd rfl h | (simp; done))
set_option maxRecDepth 100000 in
theorem b_X8_isPrime_11 : (fun (v0 : Int32) (M : Mem) (a1 : (Int32 × Int32)) => run C_X8_isPrime 3 (35, [some (.int v0), some (.int a1.1), some (.int a1.2)], [.int (if (jrem v0 a1.2) = 0 then (0 : Int32) else (1 : Int32))], M, 0)) = (fun (v0 : Int32) (M : Mem) (a1 : (Int32 × Int32)) => some (.inl (13, [some (.int v0), some (.int (if (jrem v0 a1.2) = 0 then (0 : Int32) else (1 : Int32))), some (.int (a1.2 + (1 : Int32)))], [], M, 0))) := by rfl
def g_X8_isPrime_1 (v0 : Int32) : Int32 × Int32 → Option ((Int32 × Int32) ⊕ ((Int32 × Int32) ⊕ Int32)) := fun (a1 : Int32 × Int32) => (if (a1.2 * a1.2) ≤ v0 then (if a1.1 = 0 then some (.inr (.inl (a1.1, a1.2))) else (if a1.2 = 0 then none else some (.inl ((if (jrem v0 a1.2) = 0 then (0 : Int32) else (1 : Int32)), (a1.2 + (1 : Int32)))))) else some (.inr (.inl (a1.1, a1.2))))
set_option maxHeartbeats 2000000 in
theorem l_X8_isPrime_1 (v0 : Int32) (M : Mem) : ∀ a1 : Int32 × Int32, RG C_X8_isPrime ((fun (a1 : Int32 × Int32) => (13, [some (.int v0), some (.int a1.1), some (.int a1.2)], [], M, 0)) a1) (g_X8_isPrime_1 v0 a1) (lpP (fun (a1 : Int32 × Int32) => (13, [some (.int v0), some (.int a1.1), some (.int a1.2)], [], M, 0)) (fun (a1 : Int32 × Int32) => (42, [some (.int v0), some (.int a1.1), some (.int a1.2)], [], M, 0)) (fun (v : Int32) => (.inl (some (.int v)), M))) := by
  intro a1
  unfold g_X8_isPrime_1
  show RG C_X8_isPrime (13, [some (.int v0), some (.int a1.1), some (.int a1.2)], [], M, 0) _ _
  refine RG.st 5 (congrFun (congrFun (congrFun b_X8_isPrime_4 v0) M) a1) ?_
  refine RG.ite (fun h1 => RG.brNF (q := 20) h1 rfl ?_) (fun h1 => RG.brNT (q := 42) h1 rfl ?_)
  · refine RG.st 2 (congrFun (congrFun (congrFun b_X8_isPrime_5 v0) M) a1) ?_
    refine RG.ite (fun h2 => RG.brT (q := 42) h2 rfl ?_) (fun h2 => RG.brF (q := 24) h2 rfl ?_)
    · exact RG.to rfl (Rto.refl _)
    · refine RG.st 2 (congrFun (congrFun (congrFun b_X8_isPrime_6 v0) M) a1) ?_
      refine RG.guardN (fun h3 => RG.st 1 (stp_gN h3 (congrFun (congrFun (congrFun b_X8_isPrime_7 v0) M) a1)) ?_)
      refine RG.step (m_X8_isPrime_1 v0 M a1) ?_
      refine RG.st 3 (congrFun (congrFun (congrFun b_X8_isPrime_11 v0) M) a1) ?_
      exact RG.to rfl (Rto.refl _)
  · exact RG.to rfl (Rto.refl _)
set_option maxRecDepth 100000 in
theorem b_X8_isPrime_12 : (fun (v0 : Int32) (M : Mem) (a2 : (Int32 × Int32)) => run C_X8_isPrime 2 (42, [some (.int v0), some (.int a2.1), some (.int a2.2)], [], M, 0)) = (fun (v0 : Int32) (M : Mem) (a2 : (Int32 × Int32)) => some (.inr (.inl (some (.int (a2.1 &&& 1))), M, 0))) := by rfl
def d_X8_isPrime (v0 : Int32) : Option Int32 := (onIt (iter (g_X8_isPrime_1 v0) 20000 ((if v0 ≤ (1 : Int32) then (0 : Int32) else (1 : Int32)), (2 : Int32))) (fun (a2 : Int32 × Int32) => some (a2.1 &&& 1)) (fun r => some r))
set_option maxHeartbeats 2000000 in
theorem r_X8_isPrime (v0 : Int32) (M : Mem) : RG C_X8_isPrime (0, [some (.int v0), none, none], [], M, 0) (d_X8_isPrime v0) (fun v => .inr (.inl (some (.int v)), M)) := by
  unfold d_X8_isPrime
  refine RG.step (m_X8_isPrime_0 v0 M) ?_
  refine RG.st 3 (congrFun (congrFun b_X8_isPrime_3 v0) M) ?_
  refine RG.loop (hd := (fun (a1 : Int32 × Int32) => (13, [some (.int v0), some (.int a1.1), some (.int a1.2)], [], M, 0))) (ex := (fun (a1 : Int32 × Int32) => (42, [some (.int v0), some (.int a1.1), some (.int a1.2)], [], M, 0))) (rt := (fun (v : Int32) => (.inl (some (.int v)), M))) (l_X8_isPrime_1 v0 M) (fun a2 => ?_) (fun r v h => by cases h; rfl)
  show RG C_X8_isPrime (42, [some (.int v0), some (.int a2.1), some (.int a2.2)], [], M, 0) _ _
  exact RG.fin rfl (Rend.run 2 (congrFun (congrFun (congrFun b_X8_isPrime_12 v0) M) a2))
def fn_X8_isPrime : Fn := fun av M => match av with
  | [.int v0] => (d_X8_isPrime v0).bind fun v => some (.inl (some (.int v)), M)
  | _ => none
theorem cfg_X8_isPrime : CfgOK RX8 cX8_isPrime (C_X8_isPrime) 1 := ⟨tk_X8_isPrime, csF_nd, flk_X8, (fun e h => absurd h List.not_mem_nil), ink_X8, lgk_X8, fun e h => absurd h List.not_mem_nil, (fun h hh => absurd hh List.not_mem_nil)⟩
theorem ok_X8_isPrime : OkM csF yX8_isPrime (Cond.code yX8_isPrime cX8_isPrime 3 (some .boolean)) 1 0 fn_X8_isPrime :=
  OkM_of (own := RX8) (C := C_X8_isPrime) (by decide +kernel) rfl (cfg_X8_isPrime) rfl rfl rfl rfl (by
    intro av M o M' h
    unfold fn_X8_isPrime at h
    split at h
    · rename_i v0
      obtain ⟨w, hw, h⟩ := bind_cs h
      cases h
      exact ⟨rfl, Nat.le_of_ble_eq_true rfl, (r_X8_isPrime v0 M) w hw⟩
    · cases h)
def t_X8_orderBy : List (Nat × Instr × Nat) := [(0, .iconst 1, 1), (1, .istore_n 2, 1), (2, .iload_n 0, 1), (3, .iload_n 1, 1), (4, .irem, 1), (5, .i2l, 1), (6, .lstore_n 3, 1), (7, .lload_n 3, 1), (8, .lconst 1, 1), (9, .lcmp, 1), (10, .ifCond .eq 22, 3), (13, .iload_n 2, 1), (14, .iload_n 1, 1), (15, .if_icmp .ge 17, 3), (18, .lload_n 3, 1), (19, .iload_n 0, 1), (20, .i2l, 1), (21, .lmul, 1), (22, .iload_n 1, 1), (23, .i2l, 1), (24, .lrem, 1), (25, .lstore_n 3, 1), (26, .iinc 2 1, 3), (29, .goto (-22), 3), (32, .iload_n 2, 1), (33, .ireturn, 1)]
theorem tk_X8_orderBy : ∀ x ∈ t_X8_orderBy, decode cX8_orderBy x.1 = .ok x.2 := by decide +kernel
def C_X8_orderBy : Cfg := (t_X8_orderBy, csF, fl_X8, [], in_X8, lg_X8, [], [], none, (some .int), 0)
set_option maxRecDepth 100000 in
theorem b_X8_orderBy_0 : (fun (v0 : Int32) (v1 : Int32) (M : Mem) => run C_X8_orderBy 4 (0, [some (.int v0), some (.int v1), none, none, none], [], M, 0)) = (fun (v0 : Int32) (v1 : Int32) (M : Mem) => some (.inl (4, [some (.int v0), some (.int v1), some (.int (1 : Int32)), none, none], [.int v1, .int v0], M, 0))) := by rfl
set_option maxRecDepth 100000 in
theorem b_X8_orderBy_1 : (fun (v0 : Int32) (v1 : Int32) (M : Mem) => stp C_X8_orderBy (4, [some (.int v0), some (.int v1), some (.int (1 : Int32)), none, none], [.int v1, .int v0], M, 0)) = (fun (v0 : Int32) (v1 : Int32) (M : Mem) => (if v1 = 0 then none else some (.inl (5, [some (.int v0), some (.int v1), some (.int (1 : Int32)), none, none], [.int (jrem v0 v1)], M, 0)))) := by rfl
set_option maxRecDepth 100000 in
theorem b_X8_orderBy_2 : (fun (v0 : Int32) (v1 : Int32) (M : Mem) => run C_X8_orderBy 2 (5, [some (.int v0), some (.int v1), some (.int (1 : Int32)), none, none], [.int (jrem v0 v1)], M, 0)) = (fun (v0 : Int32) (v1 : Int32) (M : Mem) => some (.inl (7, [some (.int v0), some (.int v1), some (.int (1 : Int32)), some (.long ((jrem v0 v1).toInt64)), none], [], M, 0))) := by rfl
set_option maxRecDepth 100000 in
theorem b_X8_orderBy_3 : (fun (v0 : Int32) (v1 : Int32) (M : Mem) (a1 : (Int32 × Int64)) => run C_X8_orderBy 4 (7, [some (.int v0), some (.int v1), some (.int a1.1), some (.long a1.2), none], [], M, 0)) = (fun (v0 : Int32) (v1 : Int32) (M : Mem) (a1 : (Int32 × Int64)) => some (.inl ((br (decide ((lg_cmp a1.2 (1 : Int64)) = 0)) 10 3 (22)), [some (.int v0), some (.int v1), some (.int a1.1), some (.long a1.2), none], [], M, 0))) := by rfl
set_option maxRecDepth 100000 in
theorem b_X8_orderBy_4 : (fun (v0 : Int32) (v1 : Int32) (M : Mem) (a1 : (Int32 × Int64)) => run C_X8_orderBy 3 (13, [some (.int v0), some (.int v1), some (.int a1.1), some (.long a1.2), none], [], M, 0)) = (fun (v0 : Int32) (v1 : Int32) (M : Mem) (a1 : (Int32 × Int64)) => some (.inl ((br (!decide (a1.1 < v1)) 15 3 (17)), [some (.int v0), some (.int v1), some (.int a1.1), some (.long a1.2), none], [], M, 0))) := by rfl
set_option maxRecDepth 100000 in
theorem b_X8_orderBy_5 : (fun (v0 : Int32) (v1 : Int32) (M : Mem) (a1 : (Int32 × Int64)) => run C_X8_orderBy 6 (18, [some (.int v0), some (.int v1), some (.int a1.1), some (.long a1.2), none], [], M, 0)) = (fun (v0 : Int32) (v1 : Int32) (M : Mem) (a1 : (Int32 × Int64)) => some (.inl (24, [some (.int v0), some (.int v1), some (.int a1.1), some (.long a1.2), none], [.long v1.toInt64, .long (a1.2 * v0.toInt64)], M, 0))) := by rfl
set_option maxRecDepth 100000 in
theorem b_X8_orderBy_6 : (fun (v0 : Int32) (v1 : Int32) (M : Mem) (a1 : (Int32 × Int64)) => stp C_X8_orderBy (24, [some (.int v0), some (.int v1), some (.int a1.1), some (.long a1.2), none], [.long v1.toInt64, .long (a1.2 * v0.toInt64)], M, 0)) = (fun (v0 : Int32) (v1 : Int32) (M : Mem) (a1 : (Int32 × Int64)) => (if v1.toInt64 = 0 then none else some (.inl (25, [some (.int v0), some (.int v1), some (.int a1.1), some (.long a1.2), none], [.long (jlrem (a1.2 * v0.toInt64) v1.toInt64)], M, 0)))) := by rfl
set_option maxRecDepth 100000 in
theorem b_X8_orderBy_7 : (fun (v0 : Int32) (v1 : Int32) (M : Mem) (a1 : (Int32 × Int64)) => run C_X8_orderBy 3 (25, [some (.int v0), some (.int v1), some (.int a1.1), some (.long a1.2), none], [.long (jlrem (a1.2 * v0.toInt64) v1.toInt64)], M, 0)) = (fun (v0 : Int32) (v1 : Int32) (M : Mem) (a1 : (Int32 × Int64)) => some (.inl (7, [some (.int v0), some (.int v1), some (.int (a1.1 + (1 : Int32))), some (.long (jlrem (a1.2 * v0.toInt64) v1.toInt64)), none], [], M, 0))) := by rfl
def g_X8_orderBy_1 (v0 : Int32) (v1 : Int32) : Int32 × Int64 → Option ((Int32 × Int64) ⊕ ((Int32 × Int64) ⊕ Int32)) := fun (a1 : Int32 × Int64) => (if (lg_cmp a1.2 (1 : Int64)) = 0 then some (.inr (.inl (a1.1, a1.2))) else (if a1.1 < v1 then (if v1.toInt64 = 0 then none else some (.inl ((a1.1 + (1 : Int32)), (jlrem (a1.2 * v0.toInt64) v1.toInt64)))) else some (.inr (.inl (a1.1, a1.2)))))
set_option maxHeartbeats 2000000 in
theorem l_X8_orderBy_1 (v0 : Int32) (v1 : Int32) (M : Mem) : ∀ a1 : Int32 × Int64, RG C_X8_orderBy ((fun (a1 : Int32 × Int64) => (7, [some (.int v0), some (.int v1), some (.int a1.1), some (.long a1.2), none], [], M, 0)) a1) (g_X8_orderBy_1 v0 v1 a1) (lpP (fun (a1 : Int32 × Int64) => (7, [some (.int v0), some (.int v1), some (.int a1.1), some (.long a1.2), none], [], M, 0)) (fun (a1 : Int32 × Int64) => (32, [some (.int v0), some (.int v1), some (.int a1.1), some (.long a1.2), none], [], M, 0)) (fun (v : Int32) => (.inl (some (.int v)), M))) := by
  intro a1
  unfold g_X8_orderBy_1
  show RG C_X8_orderBy (7, [some (.int v0), some (.int v1), some (.int a1.1), some (.long a1.2), none], [], M, 0) _ _
  refine RG.st 4 (congrFun (congrFun (congrFun (congrFun b_X8_orderBy_3 v0) v1) M) a1) ?_
  refine RG.ite (fun h2 => RG.brT (q := 32) h2 rfl ?_) (fun h2 => RG.brF (q := 13) h2 rfl ?_)
  · exact RG.to rfl (Rto.refl _)
  · refine RG.st 3 (congrFun (congrFun (congrFun (congrFun b_X8_orderBy_4 v0) v1) M) a1) ?_
    refine RG.ite (fun h3 => RG.brNF (q := 18) h3 rfl ?_) (fun h3 => RG.brNT (q := 32) h3 rfl ?_)
    · refine RG.st 6 (congrFun (congrFun (congrFun (congrFun b_X8_orderBy_5 v0) v1) M) a1) ?_
      refine RG.guardN (fun h4 => RG.st 1 (stp_gN h4 (congrFun (congrFun (congrFun (congrFun b_X8_orderBy_6 v0) v1) M) a1)) ?_)
      refine RG.st 3 (congrFun (congrFun (congrFun (congrFun b_X8_orderBy_7 v0) v1) M) a1) ?_
      exact RG.to rfl (Rto.refl _)
    · exact RG.to rfl (Rto.refl _)
set_option maxRecDepth 100000 in
theorem b_X8_orderBy_8 : (fun (v0 : Int32) (v1 : Int32) (M : Mem) (a2 : (Int32 × Int64)) => run C_X8_orderBy 2 (32, [some (.int v0), some (.int v1), some (.int a2.1), some (.long a2.2), none], [], M, 0)) = (fun (v0 : Int32) (v1 : Int32) (M : Mem) (a2 : (Int32 × Int64)) => some (.inr (.inl (some (.int a2.1)), M, 0))) := by rfl
def d_X8_orderBy (v0 : Int32) (v1 : Int32) : Option Int32 := (if v1 = 0 then none else (onIt (iter (g_X8_orderBy_1 v0 v1) 20000 ((1 : Int32), (jrem v0 v1).toInt64)) (fun (a2 : Int32 × Int64) => some a2.1) (fun r => some r)))
set_option maxHeartbeats 2000000 in
theorem r_X8_orderBy (v0 : Int32) (v1 : Int32) (M : Mem) : RG C_X8_orderBy (0, [some (.int v0), some (.int v1), none, none, none], [], M, 0) (d_X8_orderBy v0 v1) (fun v => .inr (.inl (some (.int v)), M)) := by
  unfold d_X8_orderBy
  refine RG.st 4 (congrFun (congrFun (congrFun b_X8_orderBy_0 v0) v1) M) ?_
  refine RG.guardN (fun h1 => RG.st 1 (stp_gN h1 (congrFun (congrFun (congrFun b_X8_orderBy_1 v0) v1) M)) ?_)
  refine RG.st 2 (congrFun (congrFun (congrFun b_X8_orderBy_2 v0) v1) M) ?_
  refine RG.loop (hd := (fun (a1 : Int32 × Int64) => (7, [some (.int v0), some (.int v1), some (.int a1.1), some (.long a1.2), none], [], M, 0))) (ex := (fun (a1 : Int32 × Int64) => (32, [some (.int v0), some (.int v1), some (.int a1.1), some (.long a1.2), none], [], M, 0))) (rt := (fun (v : Int32) => (.inl (some (.int v)), M))) (l_X8_orderBy_1 v0 v1 M) (fun a2 => ?_) (fun r v h => by cases h; rfl)
  show RG C_X8_orderBy (32, [some (.int v0), some (.int v1), some (.int a2.1), some (.long a2.2), none], [], M, 0) _ _
  exact RG.fin rfl (Rend.run 2 (congrFun (congrFun (congrFun (congrFun b_X8_orderBy_8 v0) v1) M) a2))
def fn_X8_orderBy : Fn := fun av M => match av with
  | [.int v0, .int v1] => (d_X8_orderBy v0 v1).bind fun v => some (.inl (some (.int v)), M)
  | _ => none
theorem cfg_X8_orderBy : CfgOK RX8 cX8_orderBy (C_X8_orderBy) 1 := ⟨tk_X8_orderBy, csF_nd, flk_X8, (fun e h => absurd h List.not_mem_nil), ink_X8, lgk_X8, fun e h => absurd h List.not_mem_nil, (fun h hh => absurd hh List.not_mem_nil)⟩
theorem ok_X8_orderBy : OkM csF yX8_orderBy (Cond.code yX8_orderBy cX8_orderBy 5 (some .int)) 1 0 fn_X8_orderBy :=
  OkM_of (own := RX8) (C := C_X8_orderBy) (by decide +kernel) rfl (cfg_X8_orderBy) rfl rfl rfl rfl (by
    intro av M o M' h
    unfold fn_X8_orderBy at h
    split at h
    · rename_i v0 v1
      obtain ⟨w, hw, h⟩ := bind_cs h
      cases h
      exact ⟨rfl, Nat.le_of_ble_eq_true rfl, (r_X8_orderBy v0 v1 M) w hw⟩
    · cases h)
def t_X8_root : List (Nat × Instr × Nat) := [(0, .iload_n 1, 1), (1, .iconst 2, 1), (2, .sipush 9999, 3), (5, .invokestatic 53, 3), (8, .ifCond .eq 37, 3), (11, .iload_n 2, 1), (12, .iconst 1, 1), (13, .iload_n 1, 1), (14, .iconst 1, 1), (15, .isub, 1), (16, .invokestatic 53, 3), (19, .ifCond .eq 26, 3), (22, .iload_n 1, 1), (23, .invokestatic 173, 3), (26, .ifCond .eq 19, 3), (29, .iload_n 2, 1), (30, .iload_n 1, 1), (31, .invokestatic 176, 3), (34, .aload_n 0, 1), (35, .getfield 13, 3), (38, .if_icmp .ne 7, 3), (41, .iconst 1, 1), (42, .goto 4, 3), (45, .iconst 0, 1), (46, .istore_n 3, 1), (47, .aload_n 0, 1), (48, .iload_n 3, 1), (49, .ifCond .ne 7, 3), (52, .iconst 1, 1), (53, .goto 16, 3), (56, .aload_n 0, 1), (57, .getfield 7, 3), (60, .iconst 1, 1), (61, .if_icmp .eq 7, 3), (64, .iconst 2, 1), (65, .goto 4, 3), (68, .iconst 0, 1), (69, .putfield 46, 3), (72, .aload_n 0, 1), (73, .getfield 46, 3), (76, .ifCond .ne 13, 3), (79, .aload_n 0, 1), (80, .iload_n 1, 1), (81, .putfield 75, 3), (84, .aload_n 0, 1), (85, .iload_n 2, 1), (86, .putfield 179, 3), (89, .return_, 1)]
theorem tk_X8_root : ∀ x ∈ t_X8_root, decode cX8_root x.1 = .ok x.2 := by decide +kernel
def C_X8_root : Cfg := (t_X8_root, csF, fl_X8, [(53, 0, 6, 3, 0, fn_X8_isIn), (173, 0, 6, 1, 0, fn_X8_isPrime), (176, 0, 6, 2, 0, fn_X8_orderBy)], in_X8, lg_X8, [], [], none, none, 0)
set_option maxRecDepth 100000 in
theorem b_X8_root_0 : (fun (v1 : Int32) (v2 : Int32) (M : Mem) => run C_X8_root 5 (0, [some (.ref 19), some (.int v1), some (.int v2), none], [], M, 0)) = (fun (v1 : Int32) (v2 : Int32) (M : Mem) => some (.inl ((br (decide ((d_X8_isIn v1 (2 : Int32) (9999 : Int32)) = 0)) 8 3 (37)), [some (.ref 19), some (.int v1), some (.int v2), none], [], M, 0))) := by rfl
set_option maxRecDepth 100000 in
theorem b_X8_root_1 : (fun (v1 : Int32) (v2 : Int32) (M : Mem) => run C_X8_root 5 (45, [some (.ref 19), some (.int v1), some (.int v2), none], [], M, 0)) = (fun (v1 : Int32) (v2 : Int32) (M : Mem) => some (.inl ((br (!decide ((0 : Int32) = 0)) 49 3 (7)), [some (.ref 19), some (.int v1), some (.int v2), some (.int (0 : Int32))], [.ref 19], M, 0))) := by rfl
set_option maxRecDepth 100000 in
theorem b_X8_root_2 : (fun (v1 : Int32) (v2 : Int32) (M : Mem) => run C_X8_root 4 (56, [some (.ref 19), some (.int v1), some (.int v2), some (.int (0 : Int32))], [.ref 19], M, 0)) = (fun (v1 : Int32) (v2 : Int32) (M : Mem) => some (.inl ((br (decide ((M.1 19 0) = (1 : Int32))) 61 3 (7)), [some (.ref 19), some (.int v1), some (.int v2), some (.int (0 : Int32))], [.ref 19], M, 0))) := by rfl
set_option maxRecDepth 100000 in
theorem b_X8_root_3 : (fun (v1 : Int32) (v2 : Int32) (M : Mem) => run C_X8_root 1 (68, [some (.ref 19), some (.int v1), some (.int v2), some (.int (0 : Int32))], [.ref 19], M, 0)) = (fun (v1 : Int32) (v2 : Int32) (M : Mem) => some (.inl (69, [some (.ref 19), some (.int v1), some (.int v2), some (.int (0 : Int32))], [.int (0 : Int32), .ref 19], M, 0))) := by rfl
set_option maxRecDepth 100000 in
theorem b_X8_root_4 : (fun (v1 : Int32) (v2 : Int32) (M : Mem) => run C_X8_root 2 (64, [some (.ref 19), some (.int v1), some (.int v2), some (.int (0 : Int32))], [.ref 19], M, 0)) = (fun (v1 : Int32) (v2 : Int32) (M : Mem) => some (.inl (69, [some (.ref 19), some (.int v1), some (.int v2), some (.int (0 : Int32))], [.int (2 : Int32), .ref 19], M, 0))) := by rfl
theorem m_X8_root_0 (v1 : Int32) (v2 : Int32) (M : Mem) : Rto C_X8_root (56, [some (.ref 19), some (.int v1), some (.int v2), some (.int (0 : Int32))], [.ref 19], M, 0) (69, [some (.ref 19), some (.int v1), some (.int v2), some (.int (0 : Int32))], [.int (if (M.1 19 0) = (1 : Int32) then (0 : Int32) else (2 : Int32)), .ref 19], M, 0) := by
  refine Rto.trans (Rto.run 4 (congrFun (congrFun (congrFun b_X8_root_2 v1) v2) M)) ?_
  by_cases h : (M.1 19 0) = (1 : Int32)
  · refine Rto.trans (Rto.brT (q := 68) h rfl) ?_
    refine Rto.trans (Rto.run 1 (congrFun (congrFun (congrFun b_X8_root_3 v1) v2) M)) ?_
    exact Rto.eq (by first | (simp only [if_pos h]; done) | rfl | exact absurd rfl h | (simp; done))
  · refine Rto.trans (Rto.brF (q := 64) h rfl) ?_
    refine Rto.trans (Rto.run 2 (congrFun (congrFun (congrFun b_X8_root_4 v1) v2) M)) ?_
    exact Rto.eq (by first | (simp only [if_neg h]; done) | rfl | exact absurd rfl h | (simp; done))
set_option maxRecDepth 100000 in
theorem b_X8_root_5 : (fun (v1 : Int32) (v2 : Int32) (M : Mem) => run C_X8_root 2 (52, [some (.ref 19), some (.int v1), some (.int v2), some (.int (0 : Int32))], [.ref 19], M, 0)) = (fun (v1 : Int32) (v2 : Int32) (M : Mem) => some (.inl (69, [some (.ref 19), some (.int v1), some (.int v2), some (.int (0 : Int32))], [.int (1 : Int32), .ref 19], M, 0))) := by rfl
theorem m_X8_root_1 (v1 : Int32) (v2 : Int32) (M : Mem) : Rto C_X8_root (45, [some (.ref 19), some (.int v1), some (.int v2), none], [], M, 0) (69, [some (.ref 19), some (.int v1), some (.int v2), some (.int (0 : Int32))], [.int (if (0 : Int32) = 0 then (1 : Int32) else (if (M.1 19 0) = (1 : Int32) then (0 : Int32) else (2 : Int32))), .ref 19], M, 0) := by
  refine Rto.trans (Rto.run 5 (congrFun (congrFun (congrFun b_X8_root_1 v1) v2) M)) ?_
  by_cases h : (0 : Int32) = 0
  · refine Rto.trans (Rto.brNF (q := 52) h rfl) ?_
    refine Rto.trans (Rto.run 2 (congrFun (congrFun (congrFun b_X8_root_5 v1) v2) M)) ?_
    exact Rto.eq (by first | (simp only [if_pos h]; done) | rfl | exact absurd rfl h | (simp; done))
  · refine Rto.trans (Rto.brNT (q := 56) h rfl) ?_
    refine Rto.trans (m_X8_root_0 v1 v2 M) ?_
    exact Rto.eq (by first | (simp only [if_neg h]; done) | rfl | exact absurd rfl h | (simp; done))
set_option maxRecDepth 100000 in
theorem b_X8_root_6 : (fun (v1 : Int32) (v2 : Int32) (M : Mem) => run C_X8_root 4 (69, [some (.ref 19), some (.int v1), some (.int v2), some (.int (0 : Int32))], [.int (if (0 : Int32) = 0 then (1 : Int32) else (if (M.1 19 0) = (1 : Int32) then (0 : Int32) else (2 : Int32))), .ref 19], M, 0)) = (fun (v1 : Int32) (v2 : Int32) (M : Mem) => some (.inl ((br (!decide ((if (0 : Int32) = 0 then (1 : Int32) else (if (M.1 19 0) = (1 : Int32) then (0 : Int32) else (2 : Int32))) = 0)) 76 3 (13)), [some (.ref 19), some (.int v1), some (.int v2), some (.int (0 : Int32))], [], (sI M 19 15 (if (0 : Int32) = 0 then (1 : Int32) else (if (M.1 19 0) = (1 : Int32) then (0 : Int32) else (2 : Int32)))), 0))) := by rfl
set_option maxRecDepth 100000 in
theorem b_X8_root_7 : (fun (v1 : Int32) (v2 : Int32) (M : Mem) => run C_X8_root 7 (79, [some (.ref 19), some (.int v1), some (.int v2), some (.int (0 : Int32))], [], (sI M 19 15 (if (0 : Int32) = 0 then (1 : Int32) else (if (M.1 19 0) = (1 : Int32) then (0 : Int32) else (2 : Int32)))), 0)) = (fun (v1 : Int32) (v2 : Int32) (M : Mem) => some (.inr (.inl none, (sI (sI (sI M 19 15 (if (0 : Int32) = 0 then (1 : Int32) else (if (M.1 19 0) = (1 : Int32) then (0 : Int32) else (2 : Int32)))) 19 6 v1) 19 7 v2), 0))) := by rfl
set_option maxRecDepth 100000 in
theorem b_X8_root_8 : (fun (v1 : Int32) (v2 : Int32) (M : Mem) => run C_X8_root 1 (89, [some (.ref 19), some (.int v1), some (.int v2), some (.int (0 : Int32))], [], (sI M 19 15 (if (0 : Int32) = 0 then (1 : Int32) else (if (M.1 19 0) = (1 : Int32) then (0 : Int32) else (2 : Int32)))), 0)) = (fun (v1 : Int32) (v2 : Int32) (M : Mem) => some (.inr (.inl none, (sI M 19 15 (if (0 : Int32) = 0 then (1 : Int32) else (if (M.1 19 0) = (1 : Int32) then (0 : Int32) else (2 : Int32)))), 0))) := by rfl
set_option maxRecDepth 100000 in
theorem b_X8_root_9 : (fun (v1 : Int32) (v2 : Int32) (M : Mem) => run C_X8_root 7 (11, [some (.ref 19), some (.int v1), some (.int v2), none], [], M, 0)) = (fun (v1 : Int32) (v2 : Int32) (M : Mem) => some (.inl ((br (decide ((d_X8_isIn v2 (1 : Int32) (v1 - (1 : Int32))) = 0)) 19 3 (26)), [some (.ref 19), some (.int v1), some (.int v2), none], [], M, 0))) := by rfl
set_option maxRecDepth 100000 in
theorem b_X8_root_10 : (fun (v1 : Int32) (v2 : Int32) (M : Mem) => run C_X8_root 5 (45, [some (.ref 19), some (.int v1), some (.int v2), none], [], M, 0)) = (fun (v1 : Int32) (v2 : Int32) (M : Mem) => some (.inl ((br (!decide ((0 : Int32) = 0)) 49 3 (7)), [some (.ref 19), some (.int v1), some (.int v2), some (.int (0 : Int32))], [.ref 19], M, 0))) := by rfl
set_option maxRecDepth 100000 in
theorem b_X8_root_11 : (fun (v1 : Int32) (v2 : Int32) (M : Mem) => run C_X8_root 4 (56, [some (.ref 19), some (.int v1), some (.int v2), some (.int (0 : Int32))], [.ref 19], M, 0)) = (fun (v1 : Int32) (v2 : Int32) (M : Mem) => some (.inl ((br (decide ((M.1 19 0) = (1 : Int32))) 61 3 (7)), [some (.ref 19), some (.int v1), some (.int v2), some (.int (0 : Int32))], [.ref 19], M, 0))) := by rfl
set_option maxRecDepth 100000 in
theorem b_X8_root_12 : (fun (v1 : Int32) (v2 : Int32) (M : Mem) => run C_X8_root 1 (68, [some (.ref 19), some (.int v1), some (.int v2), some (.int (0 : Int32))], [.ref 19], M, 0)) = (fun (v1 : Int32) (v2 : Int32) (M : Mem) => some (.inl (69, [some (.ref 19), some (.int v1), some (.int v2), some (.int (0 : Int32))], [.int (0 : Int32), .ref 19], M, 0))) := by rfl
set_option maxRecDepth 100000 in
theorem b_X8_root_13 : (fun (v1 : Int32) (v2 : Int32) (M : Mem) => run C_X8_root 2 (64, [some (.ref 19), some (.int v1), some (.int v2), some (.int (0 : Int32))], [.ref 19], M, 0)) = (fun (v1 : Int32) (v2 : Int32) (M : Mem) => some (.inl (69, [some (.ref 19), some (.int v1), some (.int v2), some (.int (0 : Int32))], [.int (2 : Int32), .ref 19], M, 0))) := by rfl
theorem m_X8_root_2 (v1 : Int32) (v2 : Int32) (M : Mem) : Rto C_X8_root (56, [some (.ref 19), some (.int v1), some (.int v2), some (.int (0 : Int32))], [.ref 19], M, 0) (69, [some (.ref 19), some (.int v1), some (.int v2), some (.int (0 : Int32))], [.int (if (M.1 19 0) = (1 : Int32) then (0 : Int32) else (2 : Int32)), .ref 19], M, 0) := by
  refine Rto.trans (Rto.run 4 (congrFun (congrFun (congrFun b_X8_root_11 v1) v2) M)) ?_
  by_cases h : (M.1 19 0) = (1 : Int32)
  · refine Rto.trans (Rto.brT (q := 68) h rfl) ?_
    refine Rto.trans (Rto.run 1 (congrFun (congrFun (congrFun b_X8_root_12 v1) v2) M)) ?_
    exact Rto.eq (by first | (simp only [if_pos h]; done) | rfl | exact absurd rfl h | (simp; done))
  · refine Rto.trans (Rto.brF (q := 64) h rfl) ?_
    refine Rto.trans (Rto.run 2 (congrFun (congrFun (congrFun b_X8_root_13 v1) v2) M)) ?_
    exact Rto.eq (by first | (simp only [if_neg h]; done) | rfl | exact absurd rfl h | (simp; done))
set_option maxRecDepth 100000 in
theorem b_X8_root_14 : (fun (v1 : Int32) (v2 : Int32) (M : Mem) => run C_X8_root 2 (52, [some (.ref 19), some (.int v1), some (.int v2), some (.int (0 : Int32))], [.ref 19], M, 0)) = (fun (v1 : Int32) (v2 : Int32) (M : Mem) => some (.inl (69, [some (.ref 19), some (.int v1), some (.int v2), some (.int (0 : Int32))], [.int (1 : Int32), .ref 19], M, 0))) := by rfl
theorem m_X8_root_3 (v1 : Int32) (v2 : Int32) (M : Mem) : Rto C_X8_root (45, [some (.ref 19), some (.int v1), some (.int v2), none], [], M, 0) (69, [some (.ref 19), some (.int v1), some (.int v2), some (.int (0 : Int32))], [.int (if (0 : Int32) = 0 then (1 : Int32) else (if (M.1 19 0) = (1 : Int32) then (0 : Int32) else (2 : Int32))), .ref 19], M, 0) := by
  refine Rto.trans (Rto.run 5 (congrFun (congrFun (congrFun b_X8_root_10 v1) v2) M)) ?_
  by_cases h : (0 : Int32) = 0
  · refine Rto.trans (Rto.brNF (q := 52) h rfl) ?_
    refine Rto.trans (Rto.run 2 (congrFun (congrFun (congrFun b_X8_root_14 v1) v2) M)) ?_
    exact Rto.eq (by first | (simp only [if_pos h]; done) | rfl | exact absurd rfl h | (simp; done))
  · refine Rto.trans (Rto.brNT (q := 56) h rfl) ?_
    refine Rto.trans (m_X8_root_2 v1 v2 M) ?_
    exact Rto.eq (by first | (simp only [if_neg h]; done) | rfl | exact absurd rfl h | (simp; done))
set_option maxRecDepth 100000 in
theorem b_X8_root_15 : (fun (v1 : Int32) (v2 : Int32) (M : Mem) => run C_X8_root 4 (69, [some (.ref 19), some (.int v1), some (.int v2), some (.int (0 : Int32))], [.int (if (0 : Int32) = 0 then (1 : Int32) else (if (M.1 19 0) = (1 : Int32) then (0 : Int32) else (2 : Int32))), .ref 19], M, 0)) = (fun (v1 : Int32) (v2 : Int32) (M : Mem) => some (.inl ((br (!decide ((if (0 : Int32) = 0 then (1 : Int32) else (if (M.1 19 0) = (1 : Int32) then (0 : Int32) else (2 : Int32))) = 0)) 76 3 (13)), [some (.ref 19), some (.int v1), some (.int v2), some (.int (0 : Int32))], [], (sI M 19 15 (if (0 : Int32) = 0 then (1 : Int32) else (if (M.1 19 0) = (1 : Int32) then (0 : Int32) else (2 : Int32)))), 0))) := by rfl
set_option maxRecDepth 100000 in
theorem b_X8_root_16 : (fun (v1 : Int32) (v2 : Int32) (M : Mem) => run C_X8_root 7 (79, [some (.ref 19), some (.int v1), some (.int v2), some (.int (0 : Int32))], [], (sI M 19 15 (if (0 : Int32) = 0 then (1 : Int32) else (if (M.1 19 0) = (1 : Int32) then (0 : Int32) else (2 : Int32)))), 0)) = (fun (v1 : Int32) (v2 : Int32) (M : Mem) => some (.inr (.inl none, (sI (sI (sI M 19 15 (if (0 : Int32) = 0 then (1 : Int32) else (if (M.1 19 0) = (1 : Int32) then (0 : Int32) else (2 : Int32)))) 19 6 v1) 19 7 v2), 0))) := by rfl
set_option maxRecDepth 100000 in
theorem b_X8_root_17 : (fun (v1 : Int32) (v2 : Int32) (M : Mem) => run C_X8_root 1 (89, [some (.ref 19), some (.int v1), some (.int v2), some (.int (0 : Int32))], [], (sI M 19 15 (if (0 : Int32) = 0 then (1 : Int32) else (if (M.1 19 0) = (1 : Int32) then (0 : Int32) else (2 : Int32)))), 0)) = (fun (v1 : Int32) (v2 : Int32) (M : Mem) => some (.inr (.inl none, (sI M 19 15 (if (0 : Int32) = 0 then (1 : Int32) else (if (M.1 19 0) = (1 : Int32) then (0 : Int32) else (2 : Int32)))), 0))) := by rfl
set_option maxRecDepth 100000 in
theorem b_X8_root_18 : (fun (v1 : Int32) (v2 : Int32) (M : Mem) => run C_X8_root 1 (22, [some (.ref 19), some (.int v1), some (.int v2), none], [], M, 0)) = (fun (v1 : Int32) (v2 : Int32) (M : Mem) => some (.inl (23, [some (.ref 19), some (.int v1), some (.int v2), none], [.int v1], M, 0))) := by rfl
set_option maxRecDepth 100000 in
theorem b_X8_root_19 : (fun (v1 : Int32) (v2 : Int32) (M : Mem) (w1 : Int32) => run C_X8_root 1 (26, [some (.ref 19), some (.int v1), some (.int v2), none], [.int w1], M, 0)) = (fun (v1 : Int32) (v2 : Int32) (M : Mem) (w1 : Int32) => some (.inl ((br (decide (w1 = 0)) 26 3 (19)), [some (.ref 19), some (.int v1), some (.int v2), none], [], M, 0))) := by rfl
set_option maxRecDepth 100000 in
theorem b_X8_root_20 : (fun (v1 : Int32) (v2 : Int32) (M : Mem) => run C_X8_root 5 (45, [some (.ref 19), some (.int v1), some (.int v2), none], [], M, 0)) = (fun (v1 : Int32) (v2 : Int32) (M : Mem) => some (.inl ((br (!decide ((0 : Int32) = 0)) 49 3 (7)), [some (.ref 19), some (.int v1), some (.int v2), some (.int (0 : Int32))], [.ref 19], M, 0))) := by rfl
set_option maxRecDepth 100000 in
theorem b_X8_root_21 : (fun (v1 : Int32) (v2 : Int32) (M : Mem) => run C_X8_root 4 (56, [some (.ref 19), some (.int v1), some (.int v2), some (.int (0 : Int32))], [.ref 19], M, 0)) = (fun (v1 : Int32) (v2 : Int32) (M : Mem) => some (.inl ((br (decide ((M.1 19 0) = (1 : Int32))) 61 3 (7)), [some (.ref 19), some (.int v1), some (.int v2), some (.int (0 : Int32))], [.ref 19], M, 0))) := by rfl
set_option maxRecDepth 100000 in
theorem b_X8_root_22 : (fun (v1 : Int32) (v2 : Int32) (M : Mem) => run C_X8_root 1 (68, [some (.ref 19), some (.int v1), some (.int v2), some (.int (0 : Int32))], [.ref 19], M, 0)) = (fun (v1 : Int32) (v2 : Int32) (M : Mem) => some (.inl (69, [some (.ref 19), some (.int v1), some (.int v2), some (.int (0 : Int32))], [.int (0 : Int32), .ref 19], M, 0))) := by rfl
set_option maxRecDepth 100000 in
theorem b_X8_root_23 : (fun (v1 : Int32) (v2 : Int32) (M : Mem) => run C_X8_root 2 (64, [some (.ref 19), some (.int v1), some (.int v2), some (.int (0 : Int32))], [.ref 19], M, 0)) = (fun (v1 : Int32) (v2 : Int32) (M : Mem) => some (.inl (69, [some (.ref 19), some (.int v1), some (.int v2), some (.int (0 : Int32))], [.int (2 : Int32), .ref 19], M, 0))) := by rfl
theorem m_X8_root_4 (v1 : Int32) (v2 : Int32) (M : Mem) : Rto C_X8_root (56, [some (.ref 19), some (.int v1), some (.int v2), some (.int (0 : Int32))], [.ref 19], M, 0) (69, [some (.ref 19), some (.int v1), some (.int v2), some (.int (0 : Int32))], [.int (if (M.1 19 0) = (1 : Int32) then (0 : Int32) else (2 : Int32)), .ref 19], M, 0) := by
  refine Rto.trans (Rto.run 4 (congrFun (congrFun (congrFun b_X8_root_21 v1) v2) M)) ?_
  by_cases h : (M.1 19 0) = (1 : Int32)
  · refine Rto.trans (Rto.brT (q := 68) h rfl) ?_
    refine Rto.trans (Rto.run 1 (congrFun (congrFun (congrFun b_X8_root_22 v1) v2) M)) ?_
    exact Rto.eq (by first | (simp only [if_pos h]; done) | rfl | exact absurd rfl h | (simp; done))
  · refine Rto.trans (Rto.brF (q := 64) h rfl) ?_
    refine Rto.trans (Rto.run 2 (congrFun (congrFun (congrFun b_X8_root_23 v1) v2) M)) ?_
    exact Rto.eq (by first | (simp only [if_neg h]; done) | rfl | exact absurd rfl h | (simp; done))
set_option maxRecDepth 100000 in
theorem b_X8_root_24 : (fun (v1 : Int32) (v2 : Int32) (M : Mem) => run C_X8_root 2 (52, [some (.ref 19), some (.int v1), some (.int v2), some (.int (0 : Int32))], [.ref 19], M, 0)) = (fun (v1 : Int32) (v2 : Int32) (M : Mem) => some (.inl (69, [some (.ref 19), some (.int v1), some (.int v2), some (.int (0 : Int32))], [.int (1 : Int32), .ref 19], M, 0))) := by rfl
theorem m_X8_root_5 (v1 : Int32) (v2 : Int32) (M : Mem) : Rto C_X8_root (45, [some (.ref 19), some (.int v1), some (.int v2), none], [], M, 0) (69, [some (.ref 19), some (.int v1), some (.int v2), some (.int (0 : Int32))], [.int (if (0 : Int32) = 0 then (1 : Int32) else (if (M.1 19 0) = (1 : Int32) then (0 : Int32) else (2 : Int32))), .ref 19], M, 0) := by
  refine Rto.trans (Rto.run 5 (congrFun (congrFun (congrFun b_X8_root_20 v1) v2) M)) ?_
  by_cases h : (0 : Int32) = 0
  · refine Rto.trans (Rto.brNF (q := 52) h rfl) ?_
    refine Rto.trans (Rto.run 2 (congrFun (congrFun (congrFun b_X8_root_24 v1) v2) M)) ?_
    exact Rto.eq (by first | (simp only [if_pos h]; done) | rfl | exact absurd rfl h | (simp; done))
  · refine Rto.trans (Rto.brNT (q := 56) h rfl) ?_
    refine Rto.trans (m_X8_root_4 v1 v2 M) ?_
    exact Rto.eq (by first | (simp only [if_neg h]; done) | rfl | exact absurd rfl h | (simp; done))
set_option maxRecDepth 100000 in
theorem b_X8_root_25 : (fun (v1 : Int32) (v2 : Int32) (M : Mem) => run C_X8_root 4 (69, [some (.ref 19), some (.int v1), some (.int v2), some (.int (0 : Int32))], [.int (if (0 : Int32) = 0 then (1 : Int32) else (if (M.1 19 0) = (1 : Int32) then (0 : Int32) else (2 : Int32))), .ref 19], M, 0)) = (fun (v1 : Int32) (v2 : Int32) (M : Mem) => some (.inl ((br (!decide ((if (0 : Int32) = 0 then (1 : Int32) else (if (M.1 19 0) = (1 : Int32) then (0 : Int32) else (2 : Int32))) = 0)) 76 3 (13)), [some (.ref 19), some (.int v1), some (.int v2), some (.int (0 : Int32))], [], (sI M 19 15 (if (0 : Int32) = 0 then (1 : Int32) else (if (M.1 19 0) = (1 : Int32) then (0 : Int32) else (2 : Int32)))), 0))) := by rfl
set_option maxRecDepth 100000 in
theorem b_X8_root_26 : (fun (v1 : Int32) (v2 : Int32) (M : Mem) => run C_X8_root 7 (79, [some (.ref 19), some (.int v1), some (.int v2), some (.int (0 : Int32))], [], (sI M 19 15 (if (0 : Int32) = 0 then (1 : Int32) else (if (M.1 19 0) = (1 : Int32) then (0 : Int32) else (2 : Int32)))), 0)) = (fun (v1 : Int32) (v2 : Int32) (M : Mem) => some (.inr (.inl none, (sI (sI (sI M 19 15 (if (0 : Int32) = 0 then (1 : Int32) else (if (M.1 19 0) = (1 : Int32) then (0 : Int32) else (2 : Int32)))) 19 6 v1) 19 7 v2), 0))) := by rfl
set_option maxRecDepth 100000 in
theorem b_X8_root_27 : (fun (v1 : Int32) (v2 : Int32) (M : Mem) => run C_X8_root 1 (89, [some (.ref 19), some (.int v1), some (.int v2), some (.int (0 : Int32))], [], (sI M 19 15 (if (0 : Int32) = 0 then (1 : Int32) else (if (M.1 19 0) = (1 : Int32) then (0 : Int32) else (2 : Int32)))), 0)) = (fun (v1 : Int32) (v2 : Int32) (M : Mem) => some (.inr (.inl none, (sI M 19 15 (if (0 : Int32) = 0 then (1 : Int32) else (if (M.1 19 0) = (1 : Int32) then (0 : Int32) else (2 : Int32)))), 0))) := by rfl
set_option maxRecDepth 100000 in
theorem b_X8_root_28 : (fun (v1 : Int32) (v2 : Int32) (M : Mem) => run C_X8_root 2 (29, [some (.ref 19), some (.int v1), some (.int v2), none], [], M, 0)) = (fun (v1 : Int32) (v2 : Int32) (M : Mem) => some (.inl (31, [some (.ref 19), some (.int v1), some (.int v2), none], [.int v1, .int v2], M, 0))) := by rfl
set_option maxRecDepth 100000 in
theorem b_X8_root_29 : (fun (v1 : Int32) (v2 : Int32) (M : Mem) (w2 : Int32) => run C_X8_root 3 (34, [some (.ref 19), some (.int v1), some (.int v2), none], [.int w2], M, 0)) = (fun (v1 : Int32) (v2 : Int32) (M : Mem) (w2 : Int32) => some (.inl ((br (!decide (w2 = (M.1 19 1))) 38 3 (7)), [some (.ref 19), some (.int v1), some (.int v2), none], [], M, 0))) := by rfl
set_option maxRecDepth 100000 in
theorem b_X8_root_30 : (fun (v1 : Int32) (v2 : Int32) (M : Mem) => run C_X8_root 1 (45, [some (.ref 19), some (.int v1), some (.int v2), none], [], M, 0)) = (fun (v1 : Int32) (v2 : Int32) (M : Mem) => some (.inl (46, [some (.ref 19), some (.int v1), some (.int v2), none], [.int (0 : Int32)], M, 0))) := by rfl
set_option maxRecDepth 100000 in
theorem b_X8_root_31 : (fun (v1 : Int32) (v2 : Int32) (M : Mem) => run C_X8_root 2 (41, [some (.ref 19), some (.int v1), some (.int v2), none], [], M, 0)) = (fun (v1 : Int32) (v2 : Int32) (M : Mem) => some (.inl (46, [some (.ref 19), some (.int v1), some (.int v2), none], [.int (1 : Int32)], M, 0))) := by rfl
theorem m_X8_root_6 (v1 : Int32) (v2 : Int32) (M : Mem) (w2 : Int32) : Rto C_X8_root (34, [some (.ref 19), some (.int v1), some (.int v2), none], [.int w2], M, 0) (46, [some (.ref 19), some (.int v1), some (.int v2), none], [.int (if w2 = (M.1 19 1) then (1 : Int32) else (0 : Int32))], M, 0) := by
  refine Rto.trans (Rto.run 3 (congrFun (congrFun (congrFun (congrFun b_X8_root_29 v1) v2) M) w2)) ?_
  by_cases h : w2 = (M.1 19 1)
  · refine Rto.trans (Rto.brNF (q := 41) h rfl) ?_
    refine Rto.trans (Rto.run 2 (congrFun (congrFun (congrFun b_X8_root_31 v1) v2) M)) ?_
    exact Rto.eq (by first | (simp only [if_pos h]; done) | rfl | exact absurd rfl h | (simp; done))
  · refine Rto.trans (Rto.brNT (q := 45) h rfl) ?_
    refine Rto.trans (Rto.run 1 (congrFun (congrFun (congrFun b_X8_root_30 v1) v2) M)) ?_
    exact Rto.eq (by first | (simp only [if_neg h]; done) | rfl | exact absurd rfl h | (simp; done))
set_option maxRecDepth 100000 in
theorem b_X8_root_32 : (fun (v1 : Int32) (v2 : Int32) (M : Mem) (w2 : Int32) => run C_X8_root 4 (46, [some (.ref 19), some (.int v1), some (.int v2), none], [.int (if w2 = (M.1 19 1) then (1 : Int32) else (0 : Int32))], M, 0)) = (fun (v1 : Int32) (v2 : Int32) (M : Mem) (w2 : Int32) => some (.inl ((br (!decide ((if w2 = (M.1 19 1) then (1 : Int32) else (0 : Int32)) = 0)) 49 3 (7)), [some (.ref 19), some (.int v1), some (.int v2), some (.int (if w2 = (M.1 19 1) then (1 : Int32) else (0 : Int32)))], [.ref 19], M, 0))) := by rfl
set_option maxRecDepth 100000 in
theorem b_X8_root_33 : (fun (v1 : Int32) (v2 : Int32) (M : Mem) (w2 : Int32) => run C_X8_root 4 (56, [some (.ref 19), some (.int v1), some (.int v2), some (.int (if w2 = (M.1 19 1) then (1 : Int32) else (0 : Int32)))], [.ref 19], M, 0)) = (fun (v1 : Int32) (v2 : Int32) (M : Mem) (w2 : Int32) => some (.inl ((br (decide ((M.1 19 0) = (1 : Int32))) 61 3 (7)), [some (.ref 19), some (.int v1), some (.int v2), some (.int (if w2 = (M.1 19 1) then (1 : Int32) else (0 : Int32)))], [.ref 19], M, 0))) := by rfl
set_option maxRecDepth 100000 in
theorem b_X8_root_34 : (fun (v1 : Int32) (v2 : Int32) (M : Mem) (w2 : Int32) => run C_X8_root 1 (68, [some (.ref 19), some (.int v1), some (.int v2), some (.int (if w2 = (M.1 19 1) then (1 : Int32) else (0 : Int32)))], [.ref 19], M, 0)) = (fun (v1 : Int32) (v2 : Int32) (M : Mem) (w2 : Int32) => some (.inl (69, [some (.ref 19), some (.int v1), some (.int v2), some (.int (if w2 = (M.1 19 1) then (1 : Int32) else (0 : Int32)))], [.int (0 : Int32), .ref 19], M, 0))) := by rfl
set_option maxRecDepth 100000 in
theorem b_X8_root_35 : (fun (v1 : Int32) (v2 : Int32) (M : Mem) (w2 : Int32) => run C_X8_root 2 (64, [some (.ref 19), some (.int v1), some (.int v2), some (.int (if w2 = (M.1 19 1) then (1 : Int32) else (0 : Int32)))], [.ref 19], M, 0)) = (fun (v1 : Int32) (v2 : Int32) (M : Mem) (w2 : Int32) => some (.inl (69, [some (.ref 19), some (.int v1), some (.int v2), some (.int (if w2 = (M.1 19 1) then (1 : Int32) else (0 : Int32)))], [.int (2 : Int32), .ref 19], M, 0))) := by rfl
theorem m_X8_root_7 (v1 : Int32) (v2 : Int32) (M : Mem) (w2 : Int32) : Rto C_X8_root (56, [some (.ref 19), some (.int v1), some (.int v2), some (.int (if w2 = (M.1 19 1) then (1 : Int32) else (0 : Int32)))], [.ref 19], M, 0) (69, [some (.ref 19), some (.int v1), some (.int v2), some (.int (if w2 = (M.1 19 1) then (1 : Int32) else (0 : Int32)))], [.int (if (M.1 19 0) = (1 : Int32) then (0 : Int32) else (2 : Int32)), .ref 19], M, 0) := by
  refine Rto.trans (Rto.run 4 (congrFun (congrFun (congrFun (congrFun b_X8_root_33 v1) v2) M) w2)) ?_
  by_cases h : (M.1 19 0) = (1 : Int32)
  · refine Rto.trans (Rto.brT (q := 68) h rfl) ?_
    refine Rto.trans (Rto.run 1 (congrFun (congrFun (congrFun (congrFun b_X8_root_34 v1) v2) M) w2)) ?_
    exact Rto.eq (by first | (simp only [if_pos h]; done) | rfl | exact absurd rfl h | (simp; done))
  · refine Rto.trans (Rto.brF (q := 64) h rfl) ?_
    refine Rto.trans (Rto.run 2 (congrFun (congrFun (congrFun (congrFun b_X8_root_35 v1) v2) M) w2)) ?_
    exact Rto.eq (by first | (simp only [if_neg h]; done) | rfl | exact absurd rfl h | (simp; done))
set_option maxRecDepth 100000 in
theorem b_X8_root_36 : (fun (v1 : Int32) (v2 : Int32) (M : Mem) (w2 : Int32) => run C_X8_root 2 (52, [some (.ref 19), some (.int v1), some (.int v2), some (.int (if w2 = (M.1 19 1) then (1 : Int32) else (0 : Int32)))], [.ref 19], M, 0)) = (fun (v1 : Int32) (v2 : Int32) (M : Mem) (w2 : Int32) => some (.inl (69, [some (.ref 19), some (.int v1), some (.int v2), some (.int (if w2 = (M.1 19 1) then (1 : Int32) else (0 : Int32)))], [.int (1 : Int32), .ref 19], M, 0))) := by rfl
theorem m_X8_root_8 (v1 : Int32) (v2 : Int32) (M : Mem) (w2 : Int32) : Rto C_X8_root (46, [some (.ref 19), some (.int v1), some (.int v2), none], [.int (if w2 = (M.1 19 1) then (1 : Int32) else (0 : Int32))], M, 0) (69, [some (.ref 19), some (.int v1), some (.int v2), some (.int (if w2 = (M.1 19 1) then (1 : Int32) else (0 : Int32)))], [.int (if (if w2 = (M.1 19 1) then (1 : Int32) else (0 : Int32)) = 0 then (1 : Int32) else (if (M.1 19 0) = (1 : Int32) then (0 : Int32) else (2 : Int32))), .ref 19], M, 0) := by
  refine Rto.trans (Rto.run 4 (congrFun (congrFun (congrFun (congrFun b_X8_root_32 v1) v2) M) w2)) ?_
  by_cases h : (if w2 = (M.1 19 1) then (1 : Int32) else (0 : Int32)) = 0
  · refine Rto.trans (Rto.brNF (q := 52) h rfl) ?_
    refine Rto.trans (Rto.run 2 (congrFun (congrFun (congrFun (congrFun b_X8_root_36 v1) v2) M) w2)) ?_
    exact Rto.eq (by first | (simp only [if_pos h]; done) | rfl | exact absurd rfl h | (simp; done))
  · refine Rto.trans (Rto.brNT (q := 56) h rfl) ?_
    refine Rto.trans (m_X8_root_7 v1 v2 M w2) ?_
    exact Rto.eq (by first | (simp only [if_neg h]; done) | rfl | exact absurd rfl h | (simp; done))
set_option maxRecDepth 100000 in
theorem b_X8_root_37 : (fun (v1 : Int32) (v2 : Int32) (M : Mem) (w2 : Int32) => run C_X8_root 4 (69, [some (.ref 19), some (.int v1), some (.int v2), some (.int (if w2 = (M.1 19 1) then (1 : Int32) else (0 : Int32)))], [.int (if (if w2 = (M.1 19 1) then (1 : Int32) else (0 : Int32)) = 0 then (1 : Int32) else (if (M.1 19 0) = (1 : Int32) then (0 : Int32) else (2 : Int32))), .ref 19], M, 0)) = (fun (v1 : Int32) (v2 : Int32) (M : Mem) (w2 : Int32) => some (.inl ((br (!decide ((if (if w2 = (M.1 19 1) then (1 : Int32) else (0 : Int32)) = 0 then (1 : Int32) else (if (M.1 19 0) = (1 : Int32) then (0 : Int32) else (2 : Int32))) = 0)) 76 3 (13)), [some (.ref 19), some (.int v1), some (.int v2), some (.int (if w2 = (M.1 19 1) then (1 : Int32) else (0 : Int32)))], [], (sI M 19 15 (if (if w2 = (M.1 19 1) then (1 : Int32) else (0 : Int32)) = 0 then (1 : Int32) else (if (M.1 19 0) = (1 : Int32) then (0 : Int32) else (2 : Int32)))), 0))) := by rfl
set_option maxRecDepth 100000 in
theorem b_X8_root_38 : (fun (v1 : Int32) (v2 : Int32) (M : Mem) (w2 : Int32) => run C_X8_root 7 (79, [some (.ref 19), some (.int v1), some (.int v2), some (.int (if w2 = (M.1 19 1) then (1 : Int32) else (0 : Int32)))], [], (sI M 19 15 (if (if w2 = (M.1 19 1) then (1 : Int32) else (0 : Int32)) = 0 then (1 : Int32) else (if (M.1 19 0) = (1 : Int32) then (0 : Int32) else (2 : Int32)))), 0)) = (fun (v1 : Int32) (v2 : Int32) (M : Mem) (w2 : Int32) => some (.inr (.inl none, (sI (sI (sI M 19 15 (if (if w2 = (M.1 19 1) then (1 : Int32) else (0 : Int32)) = 0 then (1 : Int32) else (if (M.1 19 0) = (1 : Int32) then (0 : Int32) else (2 : Int32)))) 19 6 v1) 19 7 v2), 0))) := by rfl
set_option maxRecDepth 100000 in
theorem b_X8_root_39 : (fun (v1 : Int32) (v2 : Int32) (M : Mem) (w2 : Int32) => run C_X8_root 1 (89, [some (.ref 19), some (.int v1), some (.int v2), some (.int (if w2 = (M.1 19 1) then (1 : Int32) else (0 : Int32)))], [], (sI M 19 15 (if (if w2 = (M.1 19 1) then (1 : Int32) else (0 : Int32)) = 0 then (1 : Int32) else (if (M.1 19 0) = (1 : Int32) then (0 : Int32) else (2 : Int32)))), 0)) = (fun (v1 : Int32) (v2 : Int32) (M : Mem) (w2 : Int32) => some (.inr (.inl none, (sI M 19 15 (if (if w2 = (M.1 19 1) then (1 : Int32) else (0 : Int32)) = 0 then (1 : Int32) else (if (M.1 19 0) = (1 : Int32) then (0 : Int32) else (2 : Int32)))), 0))) := by rfl
def d_X8_root (v1 : Int32) (v2 : Int32) (M : Mem) : Option (Res × Mem) := (if (d_X8_isIn v1 (2 : Int32) (9999 : Int32)) = 0 then (if (if (0 : Int32) = 0 then (1 : Int32) else (if (M.1 19 0) = (1 : Int32) then (0 : Int32) else (2 : Int32))) = 0 then some (.inl none, (sI (sI (sI M 19 15 (if (0 : Int32) = 0 then (1 : Int32) else (if (M.1 19 0) = (1 : Int32) then (0 : Int32) else (2 : Int32)))) 19 6 v1) 19 7 v2)) else some (.inl none, (sI M 19 15 (if (0 : Int32) = 0 then (1 : Int32) else (if (M.1 19 0) = (1 : Int32) then (0 : Int32) else (2 : Int32)))))) else (if (d_X8_isIn v2 (1 : Int32) (v1 - (1 : Int32))) = 0 then (if (if (0 : Int32) = 0 then (1 : Int32) else (if (M.1 19 0) = (1 : Int32) then (0 : Int32) else (2 : Int32))) = 0 then some (.inl none, (sI (sI (sI M 19 15 (if (0 : Int32) = 0 then (1 : Int32) else (if (M.1 19 0) = (1 : Int32) then (0 : Int32) else (2 : Int32)))) 19 6 v1) 19 7 v2)) else some (.inl none, (sI M 19 15 (if (0 : Int32) = 0 then (1 : Int32) else (if (M.1 19 0) = (1 : Int32) then (0 : Int32) else (2 : Int32)))))) else ((d_X8_isPrime v1).bind fun w1 => (if w1 = 0 then (if (if (0 : Int32) = 0 then (1 : Int32) else (if (M.1 19 0) = (1 : Int32) then (0 : Int32) else (2 : Int32))) = 0 then some (.inl none, (sI (sI (sI M 19 15 (if (0 : Int32) = 0 then (1 : Int32) else (if (M.1 19 0) = (1 : Int32) then (0 : Int32) else (2 : Int32)))) 19 6 v1) 19 7 v2)) else some (.inl none, (sI M 19 15 (if (0 : Int32) = 0 then (1 : Int32) else (if (M.1 19 0) = (1 : Int32) then (0 : Int32) else (2 : Int32)))))) else ((d_X8_orderBy v2 v1).bind fun w2 => (if (if (if w2 = (M.1 19 1) then (1 : Int32) else (0 : Int32)) = 0 then (1 : Int32) else (if (M.1 19 0) = (1 : Int32) then (0 : Int32) else (2 : Int32))) = 0 then some (.inl none, (sI (sI (sI M 19 15 (if (if w2 = (M.1 19 1) then (1 : Int32) else (0 : Int32)) = 0 then (1 : Int32) else (if (M.1 19 0) = (1 : Int32) then (0 : Int32) else (2 : Int32)))) 19 6 v1) 19 7 v2)) else some (.inl none, (sI M 19 15 (if (if w2 = (M.1 19 1) then (1 : Int32) else (0 : Int32)) = 0 then (1 : Int32) else (if (M.1 19 0) = (1 : Int32) then (0 : Int32) else (2 : Int32)))))))))))
set_option maxHeartbeats 2000000 in
theorem r_X8_root (v1 : Int32) (v2 : Int32) (M : Mem) : RG C_X8_root (0, [some (.ref 19), some (.int v1), some (.int v2), none], [], M, 0) (d_X8_root v1 v2 M) (fun r => .inr r) := by
  unfold d_X8_root
  refine RG.st 5 (congrFun (congrFun (congrFun b_X8_root_0 v1) v2) M) ?_
  refine RG.ite (fun h1 => RG.brT (q := 45) h1 rfl ?_) (fun h1 => RG.brF (q := 11) h1 rfl ?_)
  · refine RG.step (m_X8_root_1 v1 v2 M) ?_
    refine RG.st 4 (congrFun (congrFun (congrFun b_X8_root_6 v1) v2) M) ?_
    refine RG.ite (fun h2 => RG.brNF (q := 79) h2 rfl ?_) (fun h2 => RG.brNT (q := 89) h2 rfl ?_)
    · exact RG.fin rfl (Rend.run 7 (congrFun (congrFun (congrFun b_X8_root_7 v1) v2) M))
    · exact RG.fin rfl (Rend.run 1 (congrFun (congrFun (congrFun b_X8_root_8 v1) v2) M))
  · refine RG.st 7 (congrFun (congrFun (congrFun b_X8_root_9 v1) v2) M) ?_
    refine RG.ite (fun h3 => RG.brT (q := 45) h3 rfl ?_) (fun h3 => RG.brF (q := 22) h3 rfl ?_)
    · refine RG.step (m_X8_root_3 v1 v2 M) ?_
      refine RG.st 4 (congrFun (congrFun (congrFun b_X8_root_15 v1) v2) M) ?_
      refine RG.ite (fun h4 => RG.brNF (q := 79) h4 rfl ?_) (fun h4 => RG.brNT (q := 89) h4 rfl ?_)
      · exact RG.fin rfl (Rend.run 7 (congrFun (congrFun (congrFun b_X8_root_16 v1) v2) M))
      · exact RG.fin rfl (Rend.run 1 (congrFun (congrFun (congrFun b_X8_root_17 v1) v2) M))
    · refine RG.st 1 (congrFun (congrFun (congrFun b_X8_root_18 v1) v2) M) ?_
      refine RG.bind (fun w1 h5 => RG.st 1 (run_callS (v := some (.int w1)) rfl rfl rfl rfl (bindI h5)) ?_)
      show RG C_X8_root (26, [some (.ref 19), some (.int v1), some (.int v2), none], [.int w1], M, 0) _ _
      refine RG.st 1 (congrFun (congrFun (congrFun (congrFun b_X8_root_19 v1) v2) M) w1) ?_
      refine RG.ite (fun h6 => RG.brT (q := 45) h6 rfl ?_) (fun h6 => RG.brF (q := 29) h6 rfl ?_)
      · refine RG.step (m_X8_root_5 v1 v2 M) ?_
        refine RG.st 4 (congrFun (congrFun (congrFun b_X8_root_25 v1) v2) M) ?_
        refine RG.ite (fun h7 => RG.brNF (q := 79) h7 rfl ?_) (fun h7 => RG.brNT (q := 89) h7 rfl ?_)
        · exact RG.fin rfl (Rend.run 7 (congrFun (congrFun (congrFun b_X8_root_26 v1) v2) M))
        · exact RG.fin rfl (Rend.run 1 (congrFun (congrFun (congrFun b_X8_root_27 v1) v2) M))
      · refine RG.st 2 (congrFun (congrFun (congrFun b_X8_root_28 v1) v2) M) ?_
        refine RG.bind (fun w2 h8 => RG.st 1 (run_callS (v := some (.int w2)) rfl rfl rfl rfl (bindI h8)) ?_)
        show RG C_X8_root (34, [some (.ref 19), some (.int v1), some (.int v2), none], [.int w2], M, 0) _ _
        refine RG.step (m_X8_root_6 v1 v2 M w2) ?_
        refine RG.step (m_X8_root_8 v1 v2 M w2) ?_
        refine RG.st 4 (congrFun (congrFun (congrFun (congrFun b_X8_root_37 v1) v2) M) w2) ?_
        refine RG.ite (fun h9 => RG.brNF (q := 79) h9 rfl ?_) (fun h9 => RG.brNT (q := 89) h9 rfl ?_)
        · exact RG.fin rfl (Rend.run 7 (congrFun (congrFun (congrFun (congrFun b_X8_root_38 v1) v2) M) w2))
        · exact RG.fin rfl (Rend.run 1 (congrFun (congrFun (congrFun (congrFun b_X8_root_39 v1) v2) M) w2))
def fn_X8_root : Fn := fun av M => match av with
  | [.ref r0, .int v1, .int v2] => bif Nat.beq r0 19 then (d_X8_root v1 v2 M) else (none)
  | _ => none
theorem cfg_X8_root : CfgOK RX8 cX8_root (C_X8_root) 2 := ⟨tk_X8_root, csF_nd, flk_X8, (List.forall_mem_cons.mpr ⟨Or.inr ⟨yX8_isIn, cX8_isIn, 3, (some .boolean), none, 1, ok_X8_isIn, by decide, by decide, w_code_SumsetryModel_isIn__III_Z, w_initialized_SumsetryModel, ⟨by decide, by decide⟩, Or.inl ⟨rfl, show (parseMethodDescriptor yX8_isIn.desc).map (fun d => d.parameters.length) = some 3 from by decide +kernel, w_methodLink_SumsetryModel_53, w_static_SumsetryModel_isIn__III_Z⟩⟩,
    List.forall_mem_cons.mpr ⟨Or.inr ⟨yX8_isPrime, cX8_isPrime, 3, (some .boolean), none, 1, ok_X8_isPrime, by decide, by decide, w_code_SumsetryModel_isPrime__I_Z, w_initialized_SumsetryModel, ⟨by decide, by decide⟩, Or.inl ⟨rfl, show (parseMethodDescriptor yX8_isPrime.desc).map (fun d => d.parameters.length) = some 1 from by decide +kernel, w_methodLink_SumsetryModel_173, w_static_SumsetryModel_isPrime__I_Z⟩⟩,
    List.forall_mem_cons.mpr ⟨Or.inr ⟨yX8_orderBy, cX8_orderBy, 5, (some .int), none, 1, ok_X8_orderBy, by decide, by decide, w_code_SumsetryModel_orderBy__II_I, w_initialized_SumsetryModel, ⟨by decide, by decide⟩, Or.inl ⟨rfl, show (parseMethodDescriptor yX8_orderBy.desc).map (fun d => d.parameters.length) = some 2 from by decide +kernel, w_methodLink_SumsetryModel_176, w_static_SumsetryModel_orderBy__II_I⟩⟩, fun _ h => absurd h List.not_mem_nil⟩⟩⟩), ink_X8, lgk_X8, fun e h => absurd h List.not_mem_nil, (fun h hh => absurd hh List.not_mem_nil)⟩
theorem ok_X8_root : OkM csF yX8_root (Cond.code yX8_root cX8_root 4 none) 2 0 fn_X8_root :=
  OkM_of (own := RX8) (C := C_X8_root) (by decide +kernel) rfl (cfg_X8_root) rfl rfl rfl rfl (by
    intro av M o M' h
    unfold fn_X8_root at h
    split at h
    · rename_i r0 v1 v2
      rcases bif_cs h with ⟨hb, h⟩ | ⟨-, h⟩
      · skip
        have hr0 := hb
        obtain rfl := Nat.eq_of_beq_eq_true hr0
        exact ⟨rfl, Nat.le_of_ble_eq_true rfl, (r_X8_root v1 v2 M) (o, M') h⟩
      · cases h
    · cases h)
def t_X8_transformOf : List (Nat × Instr × Nat) := [(0, .iconst 0, 1), (1, .istore 4, 2), (3, .iconst 0, 1), (4, .istore 5, 2), (6, .iload 5, 2), (8, .aload_n 0, 1), (9, .getfield 13, 3), (12, .if_icmp .ge 45, 3), (15, .lload_n 1, 1), (16, .iload 5, 2), (18, .invokestatic 60, 3), (21, .ifCond .eq 26, 3), (24, .iload 4, 2), (26, .aload_n 0, 1), (27, .aload_n 0, 1), (28, .getfield 179, 3), (31, .iload_n 3, 1), (32, .iload 5, 2), (34, .imul, 1), (35, .invokevirtual 182, 3), (38, .iadd, 1), (39, .aload_n 0, 1), (40, .getfield 75, 3), (43, .irem, 1), (44, .goto 5, 3), (47, .iload 4, 2), (49, .istore 4, 2), (51, .iinc 5 1, 3), (54, .goto (-48), 3), (57, .iload 4, 2), (59, .ireturn, 1)]
theorem tk_X8_transformOf : ∀ x ∈ t_X8_transformOf, decode cX8_transformOf x.1 = .ok x.2 := by decide +kernel
def C_X8_transformOf : Cfg := (t_X8_transformOf, csF, fl_X8, [(60, 0, 6, 2, 0, fn_X8_has), (182, 2, 6, 3, 0, fn_X8_power)], in_X8, lg_X8, [], [], none, (some .int), 0)
set_option maxRecDepth 100000 in
theorem b_X8_transformOf_0 : (fun (v1 : Int64) (v3 : Int32) (M : Mem) => run C_X8_transformOf 4 (0, [some (.ref 19), some (.long v1), none, some (.int v3), none, none], [], M, 0)) = (fun (v1 : Int64) (v3 : Int32) (M : Mem) => some (.inl (6, [some (.ref 19), some (.long v1), none, some (.int v3), some (.int (0 : Int32)), some (.int (0 : Int32))], [], M, 0))) := by rfl
set_option maxRecDepth 100000 in
theorem b_X8_transformOf_1 : (fun (v1 : Int64) (v3 : Int32) (M : Mem) (a1 : (Int32 × Int32)) => run C_X8_transformOf 4 (6, [some (.ref 19), some (.long v1), none, some (.int v3), some (.int a1.1), some (.int a1.2)], [], M, 0)) = (fun (v1 : Int64) (v3 : Int32) (M : Mem) (a1 : (Int32 × Int32)) => some (.inl ((br (!decide (a1.2 < (M.1 19 1))) 12 3 (45)), [some (.ref 19), some (.long v1), none, some (.int v3), some (.int a1.1), some (.int a1.2)], [], M, 0))) := by rfl
set_option maxRecDepth 100000 in
theorem b_X8_transformOf_2 : (fun (v1 : Int64) (v3 : Int32) (M : Mem) (a1 : (Int32 × Int32)) => run C_X8_transformOf 4 (15, [some (.ref 19), some (.long v1), none, some (.int v3), some (.int a1.1), some (.int a1.2)], [], M, 0)) = (fun (v1 : Int64) (v3 : Int32) (M : Mem) (a1 : (Int32 × Int32)) => some (.inl ((br (decide ((d_X8_has v1 a1.2) = 0)) 21 3 (26)), [some (.ref 19), some (.long v1), none, some (.int v3), some (.int a1.1), some (.int a1.2)], [], M, 0))) := by rfl
set_option maxRecDepth 100000 in
theorem b_X8_transformOf_3 : (fun (v1 : Int64) (v3 : Int32) (M : Mem) (a1 : (Int32 × Int32)) => run C_X8_transformOf 4 (47, [some (.ref 19), some (.long v1), none, some (.int v3), some (.int a1.1), some (.int a1.2)], [], M, 0)) = (fun (v1 : Int64) (v3 : Int32) (M : Mem) (a1 : (Int32 × Int32)) => some (.inl (6, [some (.ref 19), some (.long v1), none, some (.int v3), some (.int a1.1), some (.int (a1.2 + (1 : Int32)))], [], M, 0))) := by rfl
set_option maxRecDepth 100000 in
theorem b_X8_transformOf_4 : (fun (v1 : Int64) (v3 : Int32) (M : Mem) (a1 : (Int32 × Int32)) => run C_X8_transformOf 7 (24, [some (.ref 19), some (.long v1), none, some (.int v3), some (.int a1.1), some (.int a1.2)], [], M, 0)) = (fun (v1 : Int64) (v3 : Int32) (M : Mem) (a1 : (Int32 × Int32)) => some (.inl (35, [some (.ref 19), some (.long v1), none, some (.int v3), some (.int a1.1), some (.int a1.2)], [.int (v3 * a1.2), .int (M.1 19 7), .ref 19, .int a1.1], M, 0))) := by rfl
set_option maxRecDepth 100000 in
theorem b_X8_transformOf_5 : (fun (v1 : Int64) (v3 : Int32) (M : Mem) (a1 : (Int32 × Int32)) (w1 : Int32) => run C_X8_transformOf 3 (38, [some (.ref 19), some (.long v1), none, some (.int v3), some (.int a1.1), some (.int a1.2)], [.int w1, .int a1.1], M, 0)) = (fun (v1 : Int64) (v3 : Int32) (M : Mem) (a1 : (Int32 × Int32)) (w1 : Int32) => some (.inl (43, [some (.ref 19), some (.long v1), none, some (.int v3), some (.int a1.1), some (.int a1.2)], [.int (M.1 19 6), .int (a1.1 + w1)], M, 0))) := by rfl
set_option maxRecDepth 100000 in
theorem b_X8_transformOf_6 : (fun (v1 : Int64) (v3 : Int32) (M : Mem) (a1 : (Int32 × Int32)) (w1 : Int32) => stp C_X8_transformOf (43, [some (.ref 19), some (.long v1), none, some (.int v3), some (.int a1.1), some (.int a1.2)], [.int (M.1 19 6), .int (a1.1 + w1)], M, 0)) = (fun (v1 : Int64) (v3 : Int32) (M : Mem) (a1 : (Int32 × Int32)) (w1 : Int32) => (if (M.1 19 6) = 0 then none else some (.inl (44, [some (.ref 19), some (.long v1), none, some (.int v3), some (.int a1.1), some (.int a1.2)], [.int (jrem (a1.1 + w1) (M.1 19 6))], M, 0)))) := by rfl
set_option maxRecDepth 100000 in
theorem b_X8_transformOf_7 : (fun (v1 : Int64) (v3 : Int32) (M : Mem) (a1 : (Int32 × Int32)) (w1 : Int32) => run C_X8_transformOf 4 (44, [some (.ref 19), some (.long v1), none, some (.int v3), some (.int a1.1), some (.int a1.2)], [.int (jrem (a1.1 + w1) (M.1 19 6))], M, 0)) = (fun (v1 : Int64) (v3 : Int32) (M : Mem) (a1 : (Int32 × Int32)) (w1 : Int32) => some (.inl (6, [some (.ref 19), some (.long v1), none, some (.int v3), some (.int (jrem (a1.1 + w1) (M.1 19 6))), some (.int (a1.2 + (1 : Int32)))], [], M, 0))) := by rfl
def g_X8_transformOf_1 (v1 : Int64) (v3 : Int32) (M : Mem) : Int32 × Int32 → Option ((Int32 × Int32) ⊕ ((Int32 × Int32) ⊕ Int32)) := fun (a1 : Int32 × Int32) => (if a1.2 < (M.1 19 1) then (if (d_X8_has v1 a1.2) = 0 then some (.inl (a1.1, (a1.2 + (1 : Int32)))) else ((d_X8_power (M.1 19 7) (v3 * a1.2) M).bind fun w1 => (if (M.1 19 6) = 0 then none else some (.inl ((jrem (a1.1 + w1) (M.1 19 6)), (a1.2 + (1 : Int32))))))) else some (.inr (.inl (a1.1, a1.2))))
set_option maxHeartbeats 2000000 in
theorem l_X8_transformOf_1 (v1 : Int64) (v3 : Int32) (M : Mem) : ∀ a1 : Int32 × Int32, RG C_X8_transformOf ((fun (a1 : Int32 × Int32) => (6, [some (.ref 19), some (.long v1), none, some (.int v3), some (.int a1.1), some (.int a1.2)], [], M, 0)) a1) (g_X8_transformOf_1 v1 v3 M a1) (lpP (fun (a1 : Int32 × Int32) => (6, [some (.ref 19), some (.long v1), none, some (.int v3), some (.int a1.1), some (.int a1.2)], [], M, 0)) (fun (a1 : Int32 × Int32) => (57, [some (.ref 19), some (.long v1), none, some (.int v3), some (.int a1.1), some (.int a1.2)], [], M, 0)) (fun (v : Int32) => (.inl (some (.int v)), M))) := by
  intro a1
  unfold g_X8_transformOf_1
  show RG C_X8_transformOf (6, [some (.ref 19), some (.long v1), none, some (.int v3), some (.int a1.1), some (.int a1.2)], [], M, 0) _ _
  refine RG.st 4 (congrFun (congrFun (congrFun (congrFun b_X8_transformOf_1 v1) v3) M) a1) ?_
  refine RG.ite (fun h1 => RG.brNF (q := 15) h1 rfl ?_) (fun h1 => RG.brNT (q := 57) h1 rfl ?_)
  · refine RG.st 4 (congrFun (congrFun (congrFun (congrFun b_X8_transformOf_2 v1) v3) M) a1) ?_
    refine RG.ite (fun h2 => RG.brT (q := 47) h2 rfl ?_) (fun h2 => RG.brF (q := 24) h2 rfl ?_)
    · refine RG.st 4 (congrFun (congrFun (congrFun (congrFun b_X8_transformOf_3 v1) v3) M) a1) ?_
      exact RG.to rfl (Rto.refl _)
    · refine RG.st 7 (congrFun (congrFun (congrFun (congrFun b_X8_transformOf_4 v1) v3) M) a1) ?_
      refine RG.bind (fun w1 h3 => RG.st 1 (run_callV (v := some (.int w1)) rfl rfl rfl rfl rfl (bindI h3)) ?_)
      show RG C_X8_transformOf (38, [some (.ref 19), some (.long v1), none, some (.int v3), some (.int a1.1), some (.int a1.2)], [.int w1, .int a1.1], M, 0) _ _
      refine RG.st 3 (congrFun (congrFun (congrFun (congrFun (congrFun b_X8_transformOf_5 v1) v3) M) a1) w1) ?_
      refine RG.guardN (fun h4 => RG.st 1 (stp_gN h4 (congrFun (congrFun (congrFun (congrFun (congrFun b_X8_transformOf_6 v1) v3) M) a1) w1)) ?_)
      refine RG.st 4 (congrFun (congrFun (congrFun (congrFun (congrFun b_X8_transformOf_7 v1) v3) M) a1) w1) ?_
      exact RG.to rfl (Rto.refl _)
  · exact RG.to rfl (Rto.refl _)
set_option maxRecDepth 100000 in
theorem b_X8_transformOf_8 : (fun (v1 : Int64) (v3 : Int32) (M : Mem) (a2 : (Int32 × Int32)) => run C_X8_transformOf 2 (57, [some (.ref 19), some (.long v1), none, some (.int v3), some (.int a2.1), some (.int a2.2)], [], M, 0)) = (fun (v1 : Int64) (v3 : Int32) (M : Mem) (a2 : (Int32 × Int32)) => some (.inr (.inl (some (.int a2.1)), M, 0))) := by rfl
def d_X8_transformOf (v1 : Int64) (v3 : Int32) (M : Mem) : Option Int32 := (onIt (iter (g_X8_transformOf_1 v1 v3 M) 20000 ((0 : Int32), (0 : Int32))) (fun (a2 : Int32 × Int32) => some a2.1) (fun r => some r))
set_option maxHeartbeats 2000000 in
theorem r_X8_transformOf (v1 : Int64) (v3 : Int32) (M : Mem) : RG C_X8_transformOf (0, [some (.ref 19), some (.long v1), none, some (.int v3), none, none], [], M, 0) (d_X8_transformOf v1 v3 M) (fun v => .inr (.inl (some (.int v)), M)) := by
  unfold d_X8_transformOf
  refine RG.st 4 (congrFun (congrFun (congrFun b_X8_transformOf_0 v1) v3) M) ?_
  refine RG.loop (hd := (fun (a1 : Int32 × Int32) => (6, [some (.ref 19), some (.long v1), none, some (.int v3), some (.int a1.1), some (.int a1.2)], [], M, 0))) (ex := (fun (a1 : Int32 × Int32) => (57, [some (.ref 19), some (.long v1), none, some (.int v3), some (.int a1.1), some (.int a1.2)], [], M, 0))) (rt := (fun (v : Int32) => (.inl (some (.int v)), M))) (l_X8_transformOf_1 v1 v3 M) (fun a2 => ?_) (fun r v h => by cases h; rfl)
  show RG C_X8_transformOf (57, [some (.ref 19), some (.long v1), none, some (.int v3), some (.int a2.1), some (.int a2.2)], [], M, 0) _ _
  exact RG.fin rfl (Rend.run 2 (congrFun (congrFun (congrFun (congrFun b_X8_transformOf_8 v1) v3) M) a2))
def fn_X8_transformOf : Fn := fun av M => match av with
  | [.ref r0, .long v1, .int v3] => bif Nat.beq r0 19 then (d_X8_transformOf v1 v3 M).bind fun v => some (.inl (some (.int v)), M) else (none)
  | _ => none
theorem cfg_X8_transformOf : CfgOK RX8 cX8_transformOf (C_X8_transformOf) 2 := ⟨tk_X8_transformOf, csF_nd, flk_X8, (List.forall_mem_cons.mpr ⟨Or.inr ⟨yX8_has, cX8_has, 3, (some .boolean), none, 1, ok_X8_has, by decide, by decide, w_code_SumsetryModel_has__JI_Z, w_initialized_SumsetryModel, ⟨by decide, by decide⟩, Or.inl ⟨rfl, show (parseMethodDescriptor yX8_has.desc).map (fun d => d.parameters.length) = some 2 from by decide +kernel, w_methodLink_SumsetryModel_60, w_static_SumsetryModel_has__JI_Z⟩⟩,
    List.forall_mem_cons.mpr ⟨Or.inr ⟨yX8_power, cX8_power, 6, (some .int), none, 1, ok_X8_power, by decide, by decide, w_code_SumsetryModel_power__II_I, w_initialized_SumsetryModel, ⟨by decide, by decide⟩, Or.inr (Or.inr ⟨rfl, rfl, show (parseMethodDescriptor yX8_power.desc).map (fun d => d.parameters.length + 1) = some 3 from by decide +kernel, w_methodLink_SumsetryModel_182, w_instanceMethod_SumsetryModel_power__II_I, w_selects_SumsetryModel_power__II_I, ⟨_, rfl, rfl⟩⟩)⟩, fun _ h => absurd h List.not_mem_nil⟩⟩), ink_X8, lgk_X8, fun e h => absurd h List.not_mem_nil, (fun h hh => absurd hh List.not_mem_nil)⟩
theorem ok_X8_transformOf : OkM csF yX8_transformOf (Cond.code yX8_transformOf cX8_transformOf 6 (some .int)) 2 0 fn_X8_transformOf :=
  OkM_of (own := RX8) (C := C_X8_transformOf) (by decide +kernel) rfl (cfg_X8_transformOf) rfl rfl rfl rfl (by
    intro av M o M' h
    unfold fn_X8_transformOf at h
    split at h
    · rename_i r0 v1 v3
      rcases bif_cs h with ⟨hb, h⟩ | ⟨-, h⟩
      · skip
        have hr0 := hb
        obtain rfl := Nat.eq_of_beq_eq_true hr0
        obtain ⟨w, hw, h⟩ := bind_cs h
        cases h
        exact ⟨rfl, Nat.le_of_ble_eq_true rfl, (r_X8_transformOf v1 v3 M) w hw⟩
      · cases h
    · cases h)
