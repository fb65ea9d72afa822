/-! methods: X8_rest, X8_plus, X8_added, X8_group, X8_add, X8_enters, X8_set, X8_allSums -/
def t_X8_rest : List (Nat × Instr × Nat) := [(0, .iload_n 0, 1), (1, .iload_n 1, 1), (2, .irem, 1), (3, .iload_n 1, 1), (4, .iadd, 1), (5, .iload_n 1, 1), (6, .irem, 1), (7, .ireturn, 1)]
theorem tk_X8_rest : ∀ x ∈ t_X8_rest, decode cX8_rest x.1 = .ok x.2 := by decide +kernel
def C_X8_rest : Cfg := (t_X8_rest, csF, fl_X8, [], in_X8, lg_X8, [], [], none, (some .int), 0)
set_option maxRecDepth 100000 in
theorem b_X8_rest_0 : (fun (v0 : Int32) (v1 : Int32) (M : Mem) => run C_X8_rest 2 (0, [some (.int v0), some (.int v1)], [], M, 0)) = (fun (v0 : Int32) (v1 : Int32) (M : Mem) => some (.inl (2, [some (.int v0), some (.int v1)], [.int v1, .int v0], M, 0))) := by rfl
set_option maxRecDepth 100000 in
theorem b_X8_rest_1 : (fun (v0 : Int32) (v1 : Int32) (M : Mem) => stp C_X8_rest (2, [some (.int v0), some (.int v1)], [.int v1, .int v0], M, 0)) = (fun (v0 : Int32) (v1 : Int32) (M : Mem) => (if v1 = 0 then none else some (.inl (3, [some (.int v0), some (.int v1)], [.int (jrem v0 v1)], M, 0)))) := by rfl
set_option maxRecDepth 100000 in
theorem b_X8_rest_2 : (fun (v0 : Int32) (v1 : Int32) (M : Mem) => run C_X8_rest 3 (3, [some (.int v0), some (.int v1)], [.int (jrem v0 v1)], M, 0)) = (fun (v0 : Int32) (v1 : Int32) (M : Mem) => some (.inl (6, [some (.int v0), some (.int v1)], [.int v1, .int ((jrem v0 v1) + v1)], M, 0))) := by rfl
set_option maxRecDepth 100000 in
theorem b_X8_rest_3 : (fun (v0 : Int32) (v1 : Int32) (M : Mem) => stp C_X8_rest (6, [some (.int v0), some (.int v1)], [.int v1, .int ((jrem v0 v1) + v1)], M, 0)) = (fun (v0 : Int32) (v1 : Int32) (M : Mem) => (if v1 = 0 then none else some (.inl (7, [some (.int v0), some (.int v1)], [.int (jrem ((jrem v0 v1) + v1) v1)], M, 0)))) := by rfl
set_option maxRecDepth 100000 in
theorem b_X8_rest_4 : (fun (v0 : Int32) (v1 : Int32) (M : Mem) => run C_X8_rest 1 (7, [some (.int v0), some (.int v1)], [.int (jrem ((jrem v0 v1) + v1) v1)], M, 0)) = (fun (v0 : Int32) (v1 : Int32) (M : Mem) => some (.inr (.inl (some (.int (jrem ((jrem v0 v1) + v1) v1))), M, 0))) := by rfl
def d_X8_rest (v0 : Int32) (v1 : Int32) : Option Int32 := (if v1 = 0 then none else (if v1 = 0 then none else some (jrem ((jrem v0 v1) + v1) v1)))
set_option maxHeartbeats 2000000 in
theorem r_X8_rest (v0 : Int32) (v1 : Int32) (M : Mem) : RG C_X8_rest (0, [some (.int v0), some (.int v1)], [], M, 0) (d_X8_rest v0 v1) (fun v => .inr (.inl (some (.int v)), M)) := by
  unfold d_X8_rest
  refine RG.st 2 (congrFun (congrFun (congrFun b_X8_rest_0 v0) v1) M) ?_
  refine RG.guardN (fun h1 => RG.st 1 (stp_gN h1 (congrFun (congrFun (congrFun b_X8_rest_1 v0) v1) M)) ?_)
  refine RG.st 3 (congrFun (congrFun (congrFun b_X8_rest_2 v0) v1) M) ?_
  refine RG.guardN (fun h2 => RG.st 1 (stp_gN h2 (congrFun (congrFun (congrFun b_X8_rest_3 v0) v1) M)) ?_)
  exact RG.fin rfl (Rend.run 1 (congrFun (congrFun (congrFun b_X8_rest_4 v0) v1) M))
def fn_X8_rest : Fn := fun av M => match av with
  | [.int v0, .int v1] => (d_X8_rest v0 v1).bind fun v => some (.inl (some (.int v)), M)
  | _ => none
theorem cfg_X8_rest : CfgOK RX8 cX8_rest (C_X8_rest) 1 := ⟨tk_X8_rest, csF_nd, flk_X8, (fun e h => absurd h List.not_mem_nil), ink_X8, lgk_X8, fun e h => absurd h List.not_mem_nil, (fun h hh => absurd hh List.not_mem_nil)⟩
theorem ok_X8_rest : OkM csF yX8_rest (Cond.code yX8_rest cX8_rest 2 (some .int)) 1 0 fn_X8_rest :=
  OkM_of (own := RX8) (C := C_X8_rest) (by decide +kernel) rfl (cfg_X8_rest) rfl rfl rfl rfl (by
    intro av M o M' h
    unfold fn_X8_rest at h
    split at h
    · rename_i v0 v1
      obtain ⟨w, hw, h⟩ := bind_cs h
      cases h
      exact ⟨rfl, Nat.le_of_ble_eq_true rfl, (r_X8_rest v0 v1 M) w hw⟩
    · cases h)
def t_X8_plus : List (Nat × Instr × Nat) := [(0, .aload_n 0, 1), (1, .getfield 13, 3), (4, .iload_n 1, 1), (5, .aload_n 0, 1), (6, .getfield 13, 3), (9, .idiv, 1), (10, .iload_n 2, 1), (11, .iload_n 3, 1), (12, .aload_n 0, 1), (13, .getfield 13, 3), (16, .idiv, 1), (17, .imul, 1), (18, .iadd, 1), (19, .aload_n 0, 1), (20, .getfield 7, 3), (23, .invokestatic 64, 3), (26, .imul, 1), (27, .iload_n 1, 1), (28, .aload_n 0, 1), (29, .getfield 13, 3), (32, .irem, 1), (33, .iload_n 2, 1), (34, .iload_n 3, 1), (35, .aload_n 0, 1), (36, .getfield 13, 3), (39, .irem, 1), (40, .imul, 1), (41, .iadd, 1), (42, .aload_n 0, 1), (43, .getfield 13, 3), (46, .invokestatic 64, 3), (49, .iadd, 1), (50, .ireturn, 1)]
theorem tk_X8_plus : ∀ x ∈ t_X8_plus, decode cX8_plus x.1 = .ok x.2 := by decide +kernel
def C_X8_plus : Cfg := (t_X8_plus, csF, fl_X8, [(64, 0, 6, 2, 0, fn_X8_rest)], in_X8, lg_X8, [], [], none, (some .int), 0)
set_option maxRecDepth 100000 in
theorem b_X8_plus_0 : (fun (v1 : Int32) (v2 : Int32) (v3 : Int32) (M : Mem) => run C_X8_plus 5 (0, [some (.ref 19), some (.int v1), some (.int v2), some (.int v3)], [], M, 0)) = (fun (v1 : Int32) (v2 : Int32) (v3 : Int32) (M : Mem) => some (.inl (9, [some (.ref 19), some (.int v1), some (.int v2), some (.int v3)], [.int (M.1 19 1), .int v1, .int (M.1 19 1)], M, 0))) := by rfl
set_option maxRecDepth 100000 in
theorem b_X8_plus_1 : (fun (v1 : Int32) (v2 : Int32) (v3 : Int32) (M : Mem) => stp C_X8_plus (9, [some (.ref 19), some (.int v1), some (.int v2), some (.int v3)], [.int (M.1 19 1), .int v1, .int (M.1 19 1)], M, 0)) = (fun (v1 : Int32) (v2 : Int32) (v3 : Int32) (M : Mem) => (if (M.1 19 1) = 0 then none else some (.inl (10, [some (.ref 19), some (.int v1), some (.int v2), some (.int v3)], [.int (v1 / (M.1 19 1)), .int (M.1 19 1)], M, 0)))) := by rfl
set_option maxRecDepth 100000 in
theorem b_X8_plus_2 : (fun (v1 : Int32) (v2 : Int32) (v3 : Int32) (M : Mem) => run C_X8_plus 4 (10, [some (.ref 19), some (.int v1), some (.int v2), some (.int v3)], [.int (v1 / (M.1 19 1)), .int (M.1 19 1)], M, 0)) = (fun (v1 : Int32) (v2 : Int32) (v3 : Int32) (M : Mem) => some (.inl (16, [some (.ref 19), some (.int v1), some (.int v2), some (.int v3)], [.int (M.1 19 1), .int v3, .int v2, .int (v1 / (M.1 19 1)), .int (M.1 19 1)], M, 0))) := by rfl
set_option maxRecDepth 100000 in
theorem b_X8_plus_3 : (fun (v1 : Int32) (v2 : Int32) (v3 : Int32) (M : Mem) => stp C_X8_plus (16, [some (.ref 19), some (.int v1), some (.int v2), some (.int v3)], [.int (M.1 19 1), .int v3, .int v2, .int (v1 / (M.1 19 1)), .int (M.1 19 1)], M, 0)) = (fun (v1 : Int32) (v2 : Int32) (v3 : Int32) (M : Mem) => (if (M.1 19 1) = 0 then none else some (.inl (17, [some (.ref 19), some (.int v1), some (.int v2), some (.int v3)], [.int (v3 / (M.1 19 1)), .int v2, .int (v1 / (M.1 19 1)), .int (M.1 19 1)], M, 0)))) := by rfl
set_option maxRecDepth 100000 in
theorem b_X8_plus_4 : (fun (v1 : Int32) (v2 : Int32) (v3 : Int32) (M : Mem) => run C_X8_plus 4 (17, [some (.ref 19), some (.int v1), some (.int v2), some (.int v3)], [.int (v3 / (M.1 19 1)), .int v2, .int (v1 / (M.1 19 1)), .int (M.1 19 1)], M, 0)) = (fun (v1 : Int32) (v2 : Int32) (v3 : Int32) (M : Mem) => some (.inl (23, [some (.ref 19), some (.int v1), some (.int v2), some (.int v3)], [.int (M.1 19 0), .int ((v1 / (M.1 19 1)) + (v2 * (v3 / (M.1 19 1)))), .int (M.1 19 1)], M, 0))) := by rfl
set_option maxRecDepth 100000 in
theorem b_X8_plus_5 : (fun (v1 : Int32) (v2 : Int32) (v3 : Int32) (M : Mem) (w1 : Int32) => run C_X8_plus 4 (26, [some (.ref 19), some (.int v1), some (.int v2), some (.int v3)], [.int w1, .int (M.1 19 1)], M, 0)) = (fun (v1 : Int32) (v2 : Int32) (v3 : Int32) (M : Mem) (w1 : Int32) => some (.inl (32, [some (.ref 19), some (.int v1), some (.int v2), some (.int v3)], [.int (M.1 19 1), .int v1, .int ((M.1 19 1) * w1)], M, 0))) := by rfl
set_option maxRecDepth 100000 in
theorem b_X8_plus_6 : (fun (v1 : Int32) (v2 : Int32) (v3 : Int32) (M : Mem) (w1 : Int32) => stp C_X8_plus (32, [some (.ref 19), some (.int v1), some (.int v2), some (.int v3)], [.int (M.1 19 1), .int v1, .int ((M.1 19 1) * w1)], M, 0)) = (fun (v1 : Int32) (v2 : Int32) (v3 : Int32) (M : Mem) (w1 : Int32) => (if (M.1 19 1) = 0 then none else some (.inl (33, [some (.ref 19), some (.int v1), some (.int v2), some (.int v3)], [.int (jrem v1 (M.1 19 1)), .int ((M.1 19 1) * w1)], M, 0)))) := by rfl
set_option maxRecDepth 100000 in
theorem b_X8_plus_7 : (fun (v1 : Int32) (v2 : Int32) (v3 : Int32) (M : Mem) (w1 : Int32) => run C_X8_plus 4 (33, [some (.ref 19), some (.int v1), some (.int v2), some (.int v3)], [.int (jrem v1 (M.1 19 1)), .int ((M.1 19 1) * w1)], M, 0)) = (fun (v1 : Int32) (v2 : Int32) (v3 : Int32) (M : Mem) (w1 : Int32) => some (.inl (39, [some (.ref 19), some (.int v1), some (.int v2), some (.int v3)], [.int (M.1 19 1), .int v3, .int v2, .int (jrem v1 (M.1 19 1)), .int ((M.1 19 1) * w1)], M, 0))) := by rfl
set_option maxRecDepth 100000 in
theorem b_X8_plus_8 : (fun (v1 : Int32) (v2 : Int32) (v3 : Int32) (M : Mem) (w1 : Int32) => stp C_X8_plus (39, [some (.ref 19), some (.int v1), some (.int v2), some (.int v3)], [.int (M.1 19 1), .int v3, .int v2, .int (jrem v1 (M.1 19 1)), .int ((M.1 19 1) * w1)], M, 0)) = (fun (v1 : Int32) (v2 : Int32) (v3 : Int32) (M : Mem) (w1 : Int32) => (if (M.1 19 1) = 0 then none else some (.inl (40, [some (.ref 19), some (.int v1), some (.int v2), some (.int v3)], [.int (jrem v3 (M.1 19 1)), .int v2, .int (jrem v1 (M.1 19 1)), .int ((M.1 19 1) * w1)], M, 0)))) := by rfl
set_option maxRecDepth 100000 in
theorem b_X8_plus_9 : (fun (v1 : Int32) (v2 : Int32) (v3 : Int32) (M : Mem) (w1 : Int32) => run C_X8_plus 4 (40, [some (.ref 19), some (.int v1), some (.int v2), some (.int v3)], [.int (jrem v3 (M.1 19 1)), .int v2, .int (jrem v1 (M.1 19 1)), .int ((M.1 19 1) * w1)], M, 0)) = (fun (v1 : Int32) (v2 : Int32) (v3 : Int32) (M : Mem) (w1 : Int32) => some (.inl (46, [some (.ref 19), some (.int v1), some (.int v2), some (.int v3)], [.int (M.1 19 1), .int ((jrem v1 (M.1 19 1)) + (v2 * (jrem v3 (M.1 19 1)))), .int ((M.1 19 1) * w1)], M, 0))) := by rfl
set_option maxRecDepth 100000 in
theorem b_X8_plus_10 : (fun (v1 : Int32) (v2 : Int32) (v3 : Int32) (M : Mem) (w1 : Int32) (w2 : Int32) => run C_X8_plus 2 (49, [some (.ref 19), some (.int v1), some (.int v2), some (.int v3)], [.int w2, .int ((M.1 19 1) * w1)], M, 0)) = (fun (v1 : Int32) (v2 : Int32) (v3 : Int32) (M : Mem) (w1 : Int32) (w2 : Int32) => some (.inr (.inl (some (.int (((M.1 19 1) * w1) + w2))), M, 0))) := by rfl
def d_X8_plus (v1 : Int32) (v2 : Int32) (v3 : Int32) (M : Mem) : Option Int32 := (if (M.1 19 1) = 0 then none else (if (M.1 19 1) = 0 then none else ((d_X8_rest ((v1 / (M.1 19 1)) + (v2 * (v3 / (M.1 19 1)))) (M.1 19 0)).bind fun w1 => (if (M.1 19 1) = 0 then none else (if (M.1 19 1) = 0 then none else ((d_X8_rest ((jrem v1 (M.1 19 1)) + (v2 * (jrem v3 (M.1 19 1)))) (M.1 19 1)).bind fun w2 => some (((M.1 19 1) * w1) + w2)))))))
set_option maxHeartbeats 2000000 in
theorem r_X8_plus (v1 : Int32) (v2 : Int32) (v3 : Int32) (M : Mem) : RG C_X8_plus (0, [some (.ref 19), some (.int v1), some (.int v2), some (.int v3)], [], M, 0) (d_X8_plus v1 v2 v3 M) (fun v => .inr (.inl (some (.int v)), M)) := by
  unfold d_X8_plus
  refine RG.st 5 (congrFun (congrFun (congrFun (congrFun b_X8_plus_0 v1) v2) v3) M) ?_
  refine RG.guardN (fun h1 => RG.st 1 (stp_gN h1 (congrFun (congrFun (congrFun (congrFun b_X8_plus_1 v1) v2) v3) M)) ?_)
  refine RG.st 4 (congrFun (congrFun (congrFun (congrFun b_X8_plus_2 v1) v2) v3) M) ?_
  refine RG.guardN (fun h2 => RG.st 1 (stp_gN h2 (congrFun (congrFun (congrFun (congrFun b_X8_plus_3 v1) v2) v3) M)) ?_)
  refine RG.st 4 (congrFun (congrFun (congrFun (congrFun b_X8_plus_4 v1) v2) v3) M) ?_
  refine RG.bind (fun w1 h3 => RG.st 1 (run_callS (v := some (.int w1)) rfl rfl rfl rfl (bindI h3)) ?_)
  show RG C_X8_plus (26, [some (.ref 19), some (.int v1), some (.int v2), some (.int v3)], [.int w1, .int (M.1 19 1)], M, 0) _ _
  refine RG.st 4 (congrFun (congrFun (congrFun (congrFun (congrFun b_X8_plus_5 v1) v2) v3) M) w1) ?_
  refine RG.guardN (fun h4 => RG.st 1 (stp_gN h4 (congrFun (congrFun (congrFun (congrFun (congrFun b_X8_plus_6 v1) v2) v3) M) w1)) ?_)
  refine RG.st 4 (congrFun (congrFun (congrFun (congrFun (congrFun b_X8_plus_7 v1) v2) v3) M) w1) ?_
  refine RG.guardN (fun h5 => RG.st 1 (stp_gN h5 (congrFun (congrFun (congrFun (congrFun (congrFun b_X8_plus_8 v1) v2) v3) M) w1)) ?_)
  refine RG.st 4 (congrFun (congrFun (congrFun (congrFun (congrFun b_X8_plus_9 v1) v2) v3) M) w1) ?_
  refine RG.bind (fun w2 h6 => RG.st 1 (run_callS (v := some (.int w2)) rfl rfl rfl rfl (bindI h6)) ?_)
  show RG C_X8_plus (49, [some (.ref 19), some (.int v1), some (.int v2), some (.int v3)], [.int w2, .int ((M.1 19 1) * w1)], M, 0) _ _
  exact RG.fin rfl (Rend.run 2 (congrFun (congrFun (congrFun (congrFun (congrFun (congrFun b_X8_plus_10 v1) v2) v3) M) w1) w2))
def fn_X8_plus : Fn := fun av M => match av with
  | [.ref r0, .int v1, .int v2, .int v3] => bif Nat.beq r0 19 then (d_X8_plus v1 v2 v3 M).bind fun v => some (.inl (some (.int v)), M) else (none)
  | _ => none
theorem cfg_X8_plus : CfgOK RX8 cX8_plus (C_X8_plus) 2 := ⟨tk_X8_plus, csF_nd, flk_X8, (List.forall_mem_cons.mpr ⟨Or.inr ⟨yX8_rest, cX8_rest, 2, (some .int), none, 1, ok_X8_rest, by decide, by decide, w_code_SumsetryModel_rest__II_I, w_initialized_SumsetryModel, ⟨by decide, by decide⟩, Or.inl ⟨rfl, show (parseMethodDescriptor yX8_rest.desc).map (fun d => d.parameters.length) = some 2 from by decide +kernel, w_methodLink_SumsetryModel_64, w_static_SumsetryModel_rest__II_I⟩⟩, fun _ h => absurd h List.not_mem_nil⟩), ink_X8, lgk_X8, fun e h => absurd h List.not_mem_nil, (fun h hh => absurd hh List.not_mem_nil)⟩
theorem ok_X8_plus : OkM csF yX8_plus (Cond.code yX8_plus cX8_plus 4 (some .int)) 2 0 fn_X8_plus :=
  OkM_of (own := RX8) (C := C_X8_plus) (by decide +kernel) rfl (cfg_X8_plus) rfl rfl rfl rfl (by
    intro av M o M' h
    unfold fn_X8_plus at h
    split at h
    · rename_i r0 v1 v2 v3
      rcases bif_cs h with ⟨hb, h⟩ | ⟨-, h⟩
      · skip
        have hr0 := hb
        obtain rfl := Nat.eq_of_beq_eq_true hr0
        obtain ⟨w, hw, h⟩ := bind_cs h
        cases h
        exact ⟨rfl, Nat.le_of_ble_eq_true rfl, (r_X8_plus v1 v2 v3 M) w hw⟩
      · cases h
    · cases h)
def t_X8_added : List (Nat × Instr × Nat) := [(0, .aload_n 0, 1), (1, .iload_n 1, 1), (2, .iconst 1, 1), (3, .iload_n 2, 1), (4, .invokevirtual 68, 3), (7, .ireturn, 1)]
theorem tk_X8_added : ∀ x ∈ t_X8_added, decode cX8_added x.1 = .ok x.2 := by decide +kernel
def C_X8_added : Cfg := (t_X8_added, csF, fl_X8, [(68, 2, 6, 4, 0, fn_X8_plus)], in_X8, lg_X8, [], [], none, (some .int), 0)
set_option maxRecDepth 100000 in
theorem b_X8_added_0 : (fun (v1 : Int32) (v2 : Int32) (M : Mem) => run C_X8_added 4 (0, [some (.ref 19), some (.int v1), some (.int v2)], [], M, 0)) = (fun (v1 : Int32) (v2 : Int32) (M : Mem) => some (.inl (4, [some (.ref 19), some (.int v1), some (.int v2)], [.int v2, .int (1 : Int32), .int v1, .ref 19], M, 0))) := by rfl
set_option maxRecDepth 100000 in
theorem b_X8_added_1 : (fun (v1 : Int32) (v2 : Int32) (M : Mem) (w1 : Int32) => run C_X8_added 1 (7, [some (.ref 19), some (.int v1), some (.int v2)], [.int w1], M, 0)) = (fun (v1 : Int32) (v2 : Int32) (M : Mem) (w1 : Int32) => some (.inr (.inl (some (.int w1)), M, 0))) := by rfl
def d_X8_added (v1 : Int32) (v2 : Int32) (M : Mem) : Option Int32 := ((d_X8_plus v1 (1 : Int32) v2 M).bind fun w1 => some w1)
set_option maxHeartbeats 2000000 in
theorem r_X8_added (v1 : Int32) (v2 : Int32) (M : Mem) : RG C_X8_added (0, [some (.ref 19), some (.int v1), some (.int v2)], [], M, 0) (d_X8_added v1 v2 M) (fun v => .inr (.inl (some (.int v)), M)) := by
  unfold d_X8_added
  refine RG.st 4 (congrFun (congrFun (congrFun b_X8_added_0 v1) v2) M) ?_
  refine RG.bind (fun w1 h1 => RG.st 1 (run_callV (v := some (.int w1)) rfl rfl rfl rfl rfl (bindI h1)) ?_)
  show RG C_X8_added (7, [some (.ref 19), some (.int v1), some (.int v2)], [.int w1], M, 0) _ _
  exact RG.fin rfl (Rend.run 1 (congrFun (congrFun (congrFun (congrFun b_X8_added_1 v1) v2) M) w1))
def fn_X8_added : Fn := fun av M => match av with
  | [.ref r0, .int v1, .int v2] => bif Nat.beq r0 19 then (d_X8_added v1 v2 M).bind fun v => some (.inl (some (.int v)), M) else (none)
  | _ => none
theorem cfg_X8_added : CfgOK RX8 cX8_added (C_X8_added) 3 := ⟨tk_X8_added, csF_nd, flk_X8, (List.forall_mem_cons.mpr ⟨Or.inr ⟨yX8_plus, cX8_plus, 4, (some .int), none, 2, ok_X8_plus, by decide, by decide, w_code_SumsetryModel_plus__III_I, w_initialized_SumsetryModel, ⟨by decide, by decide⟩, Or.inr (Or.inr ⟨rfl, rfl, show (parseMethodDescriptor yX8_plus.desc).map (fun d => d.parameters.length + 1) = some 4 from by decide +kernel, w_methodLink_SumsetryModel_68, w_instanceMethod_SumsetryModel_plus__III_I, w_selects_SumsetryModel_plus__III_I, ⟨_, rfl, rfl⟩⟩)⟩, fun _ h => absurd h List.not_mem_nil⟩), ink_X8, lgk_X8, fun e h => absurd h List.not_mem_nil, (fun h hh => absurd hh List.not_mem_nil)⟩
theorem ok_X8_added : OkM csF yX8_added (Cond.code yX8_added cX8_added 3 (some .int)) 3 0 fn_X8_added :=
  OkM_of (own := RX8) (C := C_X8_added) (by decide +kernel) rfl (cfg_X8_added) rfl rfl rfl rfl (by
    intro av M o M' h
    unfold fn_X8_added at h
    split at h
    · rename_i r0 v1 v2
      rcases bif_cs h with ⟨hb, h⟩ | ⟨-, h⟩
      · skip
        have hr0 := hb
        obtain rfl := Nat.eq_of_beq_eq_true hr0
        obtain ⟨w, hw, h⟩ := bind_cs h
        cases h
        exact ⟨rfl, Nat.le_of_ble_eq_true rfl, (r_X8_added v1 v2 M) w hw⟩
      · cases h
    · cases h)
def t_X8_group : List (Nat × Instr × Nat) := [(0, .aload_n 0, 1), (1, .iload_n 1, 1), (2, .iconst 1, 1), (3, .bipush 36, 2), (5, .invokestatic 53, 3), (8, .ifCond .eq 25, 3), (11, .iload_n 2, 1), (12, .iconst 1, 1), (13, .bipush 36, 2), (15, .invokestatic 53, 3), (18, .ifCond .eq 15, 3), (21, .iload_n 1, 1), (22, .iload_n 2, 1), (23, .imul, 1), (24, .bipush 36, 2), (26, .if_icmp .gt 7, 3), (29, .iconst 0, 1), (30, .goto 4, 3), (33, .iconst 1, 1), (34, .putfield 46, 3), (37, .aload_n 0, 1), (38, .getfield 46, 3), (41, .ifCond .le 5, 3), (44, .iconst 0, 1), (45, .ireturn, 1), (46, .aload_n 0, 1), (47, .iload_n 1, 1), (48, .putfield 7, 3), (51, .aload_n 0, 1), (52, .iload_n 2, 1), (53, .putfield 13, 3), (56, .aload_n 0, 1), (57, .iconst 0, 1), (58, .putfield 57, 3), (61, .aload_n 0, 1), (62, .iconst 0, 1), (63, .putfield 72, 3), (66, .aload_n 0, 1), (67, .iconst 0, 1), (68, .putfield 75, 3), (71, .aload_n 0, 1), (72, .invokevirtual 49, 3), (75, .ireturn, 1)]
theorem tk_X8_group : ∀ x ∈ t_X8_group, decode cX8_group x.1 = .ok x.2 := by decide +kernel
def C_X8_group : Cfg := (t_X8_group, csF, fl_X8, [(49, 2, 6, 1, 0, fn_X8_size), (53, 0, 6, 3, 0, fn_X8_isIn)], in_X8, lg_X8, [], [], none, (some .int), 0)
set_option maxRecDepth 100000 in
theorem b_X8_group_0 : (fun (v1 : Int32) (v2 : Int32) (M : Mem) => run C_X8_group 6 (0, [some (.ref 19), some (.int v1), some (.int v2)], [], M, 0)) = (fun (v1 : Int32) (v2 : Int32) (M : Mem) => some (.inl ((br (decide ((d_X8_isIn v1 (1 : Int32) (36 : Int32)) = 0)) 8 3 (25)), [some (.ref 19), some (.int v1), some (.int v2)], [.ref 19], M, 0))) := by rfl
set_option maxRecDepth 100000 in
theorem b_X8_group_1 : (fun (v1 : Int32) (v2 : Int32) (M : Mem) => run C_X8_group 1 (33, [some (.ref 19), some (.int v1), some (.int v2)], [.ref 19], M, 0)) = (fun (v1 : Int32) (v2 : Int32) (M : Mem) => some (.inl (34, [some (.ref 19), some (.int v1), some (.int v2)], [.int (1 : Int32), .ref 19], M, 0))) := by rfl
set_option maxRecDepth 100000 in
theorem b_X8_group_2 : (fun (v1 : Int32) (v2 : Int32) (M : Mem) => run C_X8_group 5 (11, [some (.ref 19), some (.int v1), some (.int v2)], [.ref 19], M, 0)) = (fun (v1 : Int32) (v2 : Int32) (M : Mem) => some (.inl ((br (decide ((d_X8_isIn v2 (1 : Int32) (36 : Int32)) = 0)) 18 3 (15)), [some (.ref 19), some (.int v1), some (.int v2)], [.ref 19], M, 0))) := by rfl
set_option maxRecDepth 100000 in
theorem b_X8_group_3 : (fun (v1 : Int32) (v2 : Int32) (M : Mem) => run C_X8_group 1 (33, [some (.ref 19), some (.int v1), some (.int v2)], [.ref 19], M, 0)) = (fun (v1 : Int32) (v2 : Int32) (M : Mem) => some (.inl (34, [some (.ref 19), some (.int v1), some (.int v2)], [.int (1 : Int32), .ref 19], M, 0))) := by rfl
set_option maxRecDepth 100000 in
theorem b_X8_group_4 : (fun (v1 : Int32) (v2 : Int32) (M : Mem) => run C_X8_group 5 (21, [some (.ref 19), some (.int v1), some (.int v2)], [.ref 19], M, 0)) = (fun (v1 : Int32) (v2 : Int32) (M : Mem) => some (.inl ((br (!decide ((v1 * v2) ≤ (36 : Int32))) 26 3 (7)), [some (.ref 19), some (.int v1), some (.int v2)], [.ref 19], M, 0))) := by rfl
set_option maxRecDepth 100000 in
theorem b_X8_group_5 : (fun (v1 : Int32) (v2 : Int32) (M : Mem) => run C_X8_group 1 (33, [some (.ref 19), some (.int v1), some (.int v2)], [.ref 19], M, 0)) = (fun (v1 : Int32) (v2 : Int32) (M : Mem) => some (.inl (34, [some (.ref 19), some (.int v1), some (.int v2)], [.int (1 : Int32), .ref 19], M, 0))) := by rfl
set_option maxRecDepth 100000 in
theorem b_X8_group_6 : (fun (v1 : Int32) (v2 : Int32) (M : Mem) => run C_X8_group 2 (29, [some (.ref 19), some (.int v1), some (.int v2)], [.ref 19], M, 0)) = (fun (v1 : Int32) (v2 : Int32) (M : Mem) => some (.inl (34, [some (.ref 19), some (.int v1), some (.int v2)], [.int (0 : Int32), .ref 19], M, 0))) := by rfl
theorem m_X8_group_0 (v1 : Int32) (v2 : Int32) (M : Mem) : Rto C_X8_group (21, [some (.ref 19), some (.int v1), some (.int v2)], [.ref 19], M, 0) (34, [some (.ref 19), some (.int v1), some (.int v2)], [.int (if (v1 * v2) ≤ (36 : Int32) then (0 : Int32) else (1 : Int32)), .ref 19], M, 0) := by
  refine Rto.trans (Rto.run 5 (congrFun (congrFun (congrFun b_X8_group_4 v1) v2) M)) ?_
  by_cases h : (v1 * v2) ≤ (36 : Int32)
  · refine Rto.trans (Rto.brNF (q := 29) h rfl) ?_
    refine Rto.trans (Rto.run 2 (congrFun (congrFun (congrFun b_X8_group_6 v1) v2) M)) ?_
    exact Rto.eq (by first | (simp only [if_pos h]; done) | rfl | exact absurd rfl h | (simp; done))
  · refine Rto.trans (Rto.brNT (q := 33) h rfl) ?_
    refine Rto.trans (Rto.run 1 (congrFun (congrFun (congrFun b_X8_group_5 v1) v2) M)) ?_
    exact Rto.eq (by first | (simp only [if_neg h]; done) | rfl | exact absurd rfl h | (simp; done))
theorem m_X8_group_1 (v1 : Int32) (v2 : Int32) (M : Mem) : Rto C_X8_group (11, [some (.ref 19), some (.int v1), some (.int v2)], [.ref 19], M, 0) (34, [some (.ref 19), some (.int v1), some (.int v2)], [.int (if (d_X8_isIn v2 (1 : Int32) (36 : Int32)) = 0 then (1 : Int32) else (if (v1 * v2) ≤ (36 : Int32) then (0 : Int32) else (1 : Int32))), .ref 19], M, 0) := by
  refine Rto.trans (Rto.run 5 (congrFun (congrFun (congrFun b_X8_group_2 v1) v2) M)) ?_
  by_cases h : (d_X8_isIn v2 (1 : Int32) (36 : Int32)) = 0
  · refine Rto.trans (Rto.brT (q := 33) h rfl) ?_
    refine Rto.trans (Rto.run 1 (congrFun (congrFun (congrFun b_X8_group_3 v1) v2) M)) ?_
    exact Rto.eq (by first | (simp only [if_pos h]; done) | rfl | exact absurd rfl h | (simp; done))
  · refine Rto.trans (Rto.brF (q := 21) h rfl) ?_
    refine Rto.trans (m_X8_group_0 v1 v2 M) ?_
    exact Rto.eq (by first | (simp only [if_neg h]; done) | rfl | exact absurd rfl h | (simp; done))
theorem m_X8_group_2 (v1 : Int32) (v2 : Int32) (M : Mem) : Rto C_X8_group (0, [some (.ref 19), some (.int v1), some (.int v2)], [], M, 0) (34, [some (.ref 19), some (.int v1), some (.int v2)], [.int (if (d_X8_isIn v1 (1 : Int32) (36 : Int32)) = 0 then (1 : Int32) else (if (d_X8_isIn v2 (1 : Int32) (36 : Int32)) = 0 then (1 : Int32) else (if (v1 * v2) ≤ (36 : Int32) then (0 : Int32) else (1 : Int32)))), .ref 19], M, 0) := by
  refine Rto.trans (Rto.run 6 (congrFun (congrFun (congrFun b_X8_group_0 v1) v2) M)) ?_
  by_cases h : (d_X8_isIn v1 (1 : Int32) (36 : Int32)) = 0
  · refine Rto.trans (Rto.brT (q := 33) h rfl) ?_
    refine Rto.trans (Rto.run 1 (congrFun (congrFun (congrFun b_X8_group_1 v1) v2) M)) ?_
    exact Rto.eq (by first | (simp only [if_pos h]; done) | rfl | exact absurd rfl h | (simp; done))
  · refine Rto.trans (Rto.brF (q := 11) h rfl) ?_
    refine Rto.trans (m_X8_group_1 v1 v2 M) ?_
    exact Rto.eq (by first | (simp only [if_neg h]; done) | rfl | exact absurd rfl h | (simp; done))
set_option maxRecDepth 100000 in
theorem b_X8_group_7 : (fun (v1 : Int32) (v2 : Int32) (M : Mem) => run C_X8_group 4 (34, [some (.ref 19), some (.int v1), some (.int v2)], [.int (if (d_X8_isIn v1 (1 : Int32) (36 : Int32)) = 0 then (1 : Int32) else (if (d_X8_isIn v2 (1 : Int32) (36 : Int32)) = 0 then (1 : Int32) else (if (v1 * v2) ≤ (36 : Int32) then (0 : Int32) else (1 : Int32)))), .ref 19], M, 0)) = (fun (v1 : Int32) (v2 : Int32) (M : Mem) => some (.inl ((br (decide ((if (d_X8_isIn v1 (1 : Int32) (36 : Int32)) = 0 then (1 : Int32) else (if (d_X8_isIn v2 (1 : Int32) (36 : Int32)) = 0 then (1 : Int32) else (if (v1 * v2) ≤ (36 : Int32) then (0 : Int32) else (1 : Int32)))) ≤ 0)) 41 3 (5)), [some (.ref 19), some (.int v1), some (.int v2)], [], (sI M 19 15 (if (d_X8_isIn v1 (1 : Int32) (36 : Int32)) = 0 then (1 : Int32) else (if (d_X8_isIn v2 (1 : Int32) (36 : Int32)) = 0 then (1 : Int32) else (if (v1 * v2) ≤ (36 : Int32) then (0 : Int32) else (1 : Int32))))), 0))) := by rfl
set_option maxRecDepth 100000 in
theorem b_X8_group_8 : (fun (v1 : Int32) (v2 : Int32) (M : Mem) => run C_X8_group 18 (46, [some (.ref 19), some (.int v1), some (.int v2)], [], (sI M 19 15 (if (d_X8_isIn v1 (1 : Int32) (36 : Int32)) = 0 then (1 : Int32) else (if (d_X8_isIn v2 (1 : Int32) (36 : Int32)) = 0 then (1 : Int32) else (if (v1 * v2) ≤ (36 : Int32) then (0 : Int32) else (1 : Int32))))), 0)) = (fun (v1 : Int32) (v2 : Int32) (M : Mem) => some (.inr (.inl (some (.int (d_X8_size (sI (sI (sI (sI (sI (sI M 19 15 (if (d_X8_isIn v1 (1 : Int32) (36 : Int32)) = 0 then (1 : Int32) else (if (d_X8_isIn v2 (1 : Int32) (36 : Int32)) = 0 then (1 : Int32) else (if (v1 * v2) ≤ (36 : Int32) then (0 : Int32) else (1 : Int32))))) 19 0 v1) 19 1 v2) 19 2 (0 : Int32)) 19 4 (0 : Int32)) 19 6 (0 : Int32))))), (sI (sI (sI (sI (sI (sI M 19 15 (if (d_X8_isIn v1 (1 : Int32) (36 : Int32)) = 0 then (1 : Int32) else (if (d_X8_isIn v2 (1 : Int32) (36 : Int32)) = 0 then (1 : Int32) else (if (v1 * v2) ≤ (36 : Int32) then (0 : Int32) else (1 : Int32))))) 19 0 v1) 19 1 v2) 19 2 (0 : Int32)) 19 4 (0 : Int32)) 19 6 (0 : Int32)), 0))) := by rfl
set_option maxRecDepth 100000 in
theorem b_X8_group_9 : (fun (v1 : Int32) (v2 : Int32) (M : Mem) => run C_X8_group 2 (44, [some (.ref 19), some (.int v1), some (.int v2)], [], (sI M 19 15 (if (d_X8_isIn v1 (1 : Int32) (36 : Int32)) = 0 then (1 : Int32) else (if (d_X8_isIn v2 (1 : Int32) (36 : Int32)) = 0 then (1 : Int32) else (if (v1 * v2) ≤ (36 : Int32) then (0 : Int32) else (1 : Int32))))), 0)) = (fun (v1 : Int32) (v2 : Int32) (M : Mem) => some (.inr (.inl (some (.int (0 : Int32))), (sI M 19 15 (if (d_X8_isIn v1 (1 : Int32) (36 : Int32)) = 0 then (1 : Int32) else (if (d_X8_isIn v2 (1 : Int32) (36 : Int32)) = 0 then (1 : Int32) else (if (v1 * v2) ≤ (36 : Int32) then (0 : Int32) else (1 : Int32))))), 0))) := by rfl
def d_X8_group (v1 : Int32) (v2 : Int32) (M : Mem) : Option (Res × Mem) := (if (if (d_X8_isIn v1 (1 : Int32) (36 : Int32)) = 0 then (1 : Int32) else (if (d_X8_isIn v2 (1 : Int32) (36 : Int32)) = 0 then (1 : Int32) else (if (v1 * v2) ≤ (36 : Int32) then (0 : Int32) else (1 : Int32)))) ≤ 0 then some (.inl (some (.int (d_X8_size (sI (sI (sI (sI (sI (sI M 19 15 (if (d_X8_isIn v1 (1 : Int32) (36 : Int32)) = 0 then (1 : Int32) else (if (d_X8_isIn v2 (1 : Int32) (36 : Int32)) = 0 then (1 : Int32) else (if (v1 * v2) ≤ (36 : Int32) then (0 : Int32) else (1 : Int32))))) 19 0 v1) 19 1 v2) 19 2 (0 : Int32)) 19 4 (0 : Int32)) 19 6 (0 : Int32))))), (sI (sI (sI (sI (sI (sI M 19 15 (if (d_X8_isIn v1 (1 : Int32) (36 : Int32)) = 0 then (1 : Int32) else (if (d_X8_isIn v2 (1 : Int32) (36 : Int32)) = 0 then (1 : Int32) else (if (v1 * v2) ≤ (36 : Int32) then (0 : Int32) else (1 : Int32))))) 19 0 v1) 19 1 v2) 19 2 (0 : Int32)) 19 4 (0 : Int32)) 19 6 (0 : Int32))) else some (.inl (some (.int (0 : Int32))), (sI M 19 15 (if (d_X8_isIn v1 (1 : Int32) (36 : Int32)) = 0 then (1 : Int32) else (if (d_X8_isIn v2 (1 : Int32) (36 : Int32)) = 0 then (1 : Int32) else (if (v1 * v2) ≤ (36 : Int32) then (0 : Int32) else (1 : Int32)))))))
set_option maxHeartbeats 2000000 in
theorem r_X8_group (v1 : Int32) (v2 : Int32) (M : Mem) : RG C_X8_group (0, [some (.ref 19), some (.int v1), some (.int v2)], [], M, 0) (d_X8_group v1 v2 M) (fun r => .inr r) := by
  unfold d_X8_group
  refine RG.step (m_X8_group_2 v1 v2 M) ?_
  refine RG.st 4 (congrFun (congrFun (congrFun b_X8_group_7 v1) v2) M) ?_
  refine RG.ite (fun h1 => RG.brT (q := 46) h1 rfl ?_) (fun h1 => RG.brF (q := 44) h1 rfl ?_)
  · exact RG.fin rfl (Rend.run 18 (congrFun (congrFun (congrFun b_X8_group_8 v1) v2) M))
  · exact RG.fin rfl (Rend.run 2 (congrFun (congrFun (congrFun b_X8_group_9 v1) v2) M))
def fn_X8_group : Fn := fun av M => match av with
  | [.ref r0, .int v1, .int v2] => bif Nat.beq r0 19 then (d_X8_group v1 v2 M) else (none)
  | _ => none
theorem cfg_X8_group : CfgOK RX8 cX8_group (C_X8_group) 2 := ⟨tk_X8_group, csF_nd, flk_X8, (List.forall_mem_cons.mpr ⟨Or.inr ⟨yX8_size, cX8_size, 1, (some .int), none, 1, ok_X8_size, by decide, by decide, w_code_SumsetryModel_size___I, w_initialized_SumsetryModel, ⟨by decide, by decide⟩, Or.inr (Or.inr ⟨rfl, rfl, show (parseMethodDescriptor yX8_size.desc).map (fun d => d.parameters.length + 1) = some 1 from by decide +kernel, w_methodLink_SumsetryModel_49, w_instanceMethod_SumsetryModel_size___I, w_selects_SumsetryModel_size___I, ⟨_, rfl, rfl⟩⟩)⟩,
    List.forall_mem_cons.mpr ⟨Or.inr ⟨yX8_isIn, cX8_isIn, 3, (some .boolean), none, 1, ok_X8_isIn, by decide, by decide, w_code_SumsetryModel_isIn__III_Z, w_initialized_SumsetryModel, ⟨by decide, by decide⟩, Or.inl ⟨rfl, show (parseMethodDescriptor yX8_isIn.desc).map (fun d => d.parameters.length) = some 3 from by decide +kernel, w_methodLink_SumsetryModel_53, w_static_SumsetryModel_isIn__III_Z⟩⟩, fun _ h => absurd h List.not_mem_nil⟩⟩), ink_X8, lgk_X8, fun e h => absurd h List.not_mem_nil, (fun h hh => absurd hh List.not_mem_nil)⟩
theorem ok_X8_group : OkM csF yX8_group (Cond.code yX8_group cX8_group 3 (some .int)) 2 0 fn_X8_group :=
  OkM_of (own := RX8) (C := C_X8_group) (by decide +kernel) rfl (cfg_X8_group) rfl rfl rfl rfl (by
    intro av M o M' h
    unfold fn_X8_group at h
    split at h
    · rename_i r0 v1 v2
      rcases bif_cs h with ⟨hb, h⟩ | ⟨-, h⟩
      · skip
        have hr0 := hb
        obtain rfl := Nat.eq_of_beq_eq_true hr0
        exact ⟨rfl, Nat.le_of_ble_eq_true rfl, (r_X8_group v1 v2 M) (o, M') h⟩
      · cases h
    · cases h)
def t_X8_add : List (Nat × Instr × Nat) := [(0, .aload_n 0, 1), (1, .aload_n 0, 1), (2, .iload_n 1, 1), (3, .invokevirtual 78, 3), (6, .ifCond .eq 15, 3), (9, .aload_n 0, 1), (10, .iload_n 2, 1), (11, .invokevirtual 78, 3), (14, .ifCond .eq 7, 3), (17, .iconst 0, 1), (18, .goto 4, 3), (21, .iconst 1, 1), (22, .putfield 46, 3), (25, .aload_n 0, 1), (26, .getfield 46, 3), (29, .ifCond .le 7, 3), (32, .iconst 0, 1), (33, .goto 18, 3), (36, .aload_n 0, 1), (37, .iload_n 1, 1), (38, .iload_n 3, 1), (39, .ifCond .eq 7, 3), (42, .iconst 1, 1), (43, .goto 4, 3), (46, .iconst (-1), 1), (47, .iload_n 2, 1), (48, .invokevirtual 68, 3), (51, .ireturn, 1)]
theorem tk_X8_add : ∀ x ∈ t_X8_add, decode cX8_add x.1 = .ok x.2 := by decide +kernel
def C_X8_add : Cfg := (t_X8_add, csF, fl_X8, [(68, 2, 6, 4, 0, fn_X8_plus), (78, 2, 6, 2, 0, fn_X8_isElement)], in_X8, lg_X8, [], [], none, (some .int), 0)
set_option maxRecDepth 100000 in
theorem b_X8_add_0 : (fun (v1 : Int32) (v2 : Int32) (v3 : Int32) (M : Mem) => run C_X8_add 5 (0, [some (.ref 19), some (.int v1), some (.int v2), some (.int v3)], [], M, 0)) = (fun (v1 : Int32) (v2 : Int32) (v3 : Int32) (M : Mem) => some (.inl ((br (decide ((d_X8_isElement v1 M) = 0)) 6 3 (15)), [some (.ref 19), some (.int v1), some (.int v2), some (.int v3)], [.ref 19], M, 0))) := by rfl
set_option maxRecDepth 100000 in
theorem b_X8_add_1 : (fun (v1 : Int32) (v2 : Int32) (v3 : Int32) (M : Mem) => run C_X8_add 1 (21, [some (.ref 19), some (.int v1), some (.int v2), some (.int v3)], [.ref 19], M, 0)) = (fun (v1 : Int32) (v2 : Int32) (v3 : Int32) (M : Mem) => some (.inl (22, [some (.ref 19), some (.int v1), some (.int v2), some (.int v3)], [.int (1 : Int32), .ref 19], M, 0))) := by rfl
set_option maxRecDepth 100000 in
theorem b_X8_add_2 : (fun (v1 : Int32) (v2 : Int32) (v3 : Int32) (M : Mem) => run C_X8_add 4 (9, [some (.ref 19), some (.int v1), some (.int v2), some (.int v3)], [.ref 19], M, 0)) = (fun (v1 : Int32) (v2 : Int32) (v3 : Int32) (M : Mem) => some (.inl ((br (decide ((d_X8_isElement v2 M) = 0)) 14 3 (7)), [some (.ref 19), some (.int v1), some (.int v2), some (.int v3)], [.ref 19], M, 0))) := by rfl
set_option maxRecDepth 100000 in
theorem b_X8_add_3 : (fun (v1 : Int32) (v2 : Int32) (v3 : Int32) (M : Mem) => run C_X8_add 1 (21, [some (.ref 19), some (.int v1), some (.int v2), some (.int v3)], [.ref 19], M, 0)) = (fun (v1 : Int32) (v2 : Int32) (v3 : Int32) (M : Mem) => some (.inl (22, [some (.ref 19), some (.int v1), some (.int v2), some (.int v3)], [.int (1 : Int32), .ref 19], M, 0))) := by rfl
set_option maxRecDepth 100000 in
theorem b_X8_add_4 : (fun (v1 : Int32) (v2 : Int32) (v3 : Int32) (M : Mem) => run C_X8_add 2 (17, [some (.ref 19), some (.int v1), some (.int v2), some (.int v3)], [.ref 19], M, 0)) = (fun (v1 : Int32) (v2 : Int32) (v3 : Int32) (M : Mem) => some (.inl (22, [some (.ref 19), some (.int v1), some (.int v2), some (.int v3)], [.int (0 : Int32), .ref 19], M, 0))) := by rfl
theorem m_X8_add_0 (v1 : Int32) (v2 : Int32) (v3 : Int32) (M : Mem) : Rto C_X8_add (9, [some (.ref 19), some (.int v1), some (.int v2), some (.int v3)], [.ref 19], M, 0) (22, [some (.ref 19), some (.int v1), some (.int v2), some (.int v3)], [.int (if (d_X8_isElement v2 M) = 0 then (1 : Int32) else (0 : Int32)), .ref 19], M, 0) := by
  refine Rto.trans (Rto.run 4 (congrFun (congrFun (congrFun (congrFun b_X8_add_2 v1) v2) v3) M)) ?_
  by_cases h : (d_X8_isElement v2 M) = 0
  · refine Rto.trans (Rto.brT (q := 21) h rfl) ?_
    refine Rto.trans (Rto.run 1 (congrFun (congrFun (congrFun (congrFun b_X8_add_3 v1) v2) v3) M)) ?_
    exact Rto.eq (by first | (simp only [if_pos h]; done) | rfl | exact absurd rfl h | (simp; done))
  · refine Rto.trans (Rto.brF (q := 17) h rfl) ?_
    refine Rto.trans (Rto.run 2 (congrFun (congrFun (congrFun (congrFun b_X8_add_4 v1) v2) v3) M)) ?_
    exact Rto.eq (by first | (simp only [if_neg h]; done) | rfl | exact absurd rfl h | (simp; done))
theorem m_X8_add_1 (v1 : Int32) (v2 : Int32) (v3 : Int32) (M : Mem) : Rto C_X8_add (0, [some (.ref 19), some (.int v1), some (.int v2), some (.int v3)], [], M, 0) (22, [some (.ref 19), some (.int v1), some (.int v2), some (.int v3)], [.int (if (d_X8_isElement v1 M) = 0 then (1 : Int32) else (if (d_X8_isElement v2 M) = 0 then (1 : Int32) else (0 : Int32))), .ref 19], M, 0) := by
  refine Rto.trans (Rto.run 5 (congrFun (congrFun (congrFun (congrFun b_X8_add_0 v1) v2) v3) M)) ?_
  by_cases h : (d_X8_isElement v1 M) = 0
  · refine Rto.trans (Rto.brT (q := 21) h rfl) ?_
    refine Rto.trans (Rto.run 1 (congrFun (congrFun (congrFun (congrFun b_X8_add_1 v1) v2) v3) M)) ?_
    exact Rto.eq (by first | (simp only [if_pos h]; done) | rfl | exact absurd rfl h | (simp; done))
  · refine Rto.trans (Rto.brF (q := 9) h rfl) ?_
    refine Rto.trans (m_X8_add_0 v1 v2 v3 M) ?_
    exact Rto.eq (by first | (simp only [if_neg h]; done) | rfl | exact absurd rfl h | (simp; done))
set_option maxRecDepth 100000 in
theorem b_X8_add_5 : (fun (v1 : Int32) (v2 : Int32) (v3 : Int32) (M : Mem) => run C_X8_add 4 (22, [some (.ref 19), some (.int v1), some (.int v2), some (.int v3)], [.int (if (d_X8_isElement v1 M) = 0 then (1 : Int32) else (if (d_X8_isElement v2 M) = 0 then (1 : Int32) else (0 : Int32))), .ref 19], M, 0)) = (fun (v1 : Int32) (v2 : Int32) (v3 : Int32) (M : Mem) => some (.inl ((br (decide ((if (d_X8_isElement v1 M) = 0 then (1 : Int32) else (if (d_X8_isElement v2 M) = 0 then (1 : Int32) else (0 : Int32))) ≤ 0)) 29 3 (7)), [some (.ref 19), some (.int v1), some (.int v2), some (.int v3)], [], (sI M 19 15 (if (d_X8_isElement v1 M) = 0 then (1 : Int32) else (if (d_X8_isElement v2 M) = 0 then (1 : Int32) else (0 : Int32)))), 0))) := by rfl
set_option maxRecDepth 100000 in
theorem b_X8_add_6 : (fun (v1 : Int32) (v2 : Int32) (v3 : Int32) (M : Mem) => run C_X8_add 4 (36, [some (.ref 19), some (.int v1), some (.int v2), some (.int v3)], [], (sI M 19 15 (if (d_X8_isElement v1 M) = 0 then (1 : Int32) else (if (d_X8_isElement v2 M) = 0 then (1 : Int32) else (0 : Int32)))), 0)) = (fun (v1 : Int32) (v2 : Int32) (v3 : Int32) (M : Mem) => some (.inl ((br (decide (v3 = 0)) 39 3 (7)), [some (.ref 19), some (.int v1), some (.int v2), some (.int v3)], [.int v1, .ref 19], (sI M 19 15 (if (d_X8_isElement v1 M) = 0 then (1 : Int32) else (if (d_X8_isElement v2 M) = 0 then (1 : Int32) else (0 : Int32)))), 0))) := by rfl
set_option maxRecDepth 100000 in
theorem b_X8_add_7 : (fun (v1 : Int32) (v2 : Int32) (v3 : Int32) (M : Mem) => run C_X8_add 1 (46, [some (.ref 19), some (.int v1), some (.int v2), some (.int v3)], [.int v1, .ref 19], (sI M 19 15 (if (d_X8_isElement v1 M) = 0 then (1 : Int32) else (if (d_X8_isElement v2 M) = 0 then (1 : Int32) else (0 : Int32)))), 0)) = (fun (v1 : Int32) (v2 : Int32) (v3 : Int32) (M : Mem) => some (.inl (47, [some (.ref 19), some (.int v1), some (.int v2), some (.int v3)], [.int (-1 : Int32), .int v1, .ref 19], (sI M 19 15 (if (d_X8_isElement v1 M) = 0 then (1 : Int32) else (if (d_X8_isElement v2 M) = 0 then (1 : Int32) else (0 : Int32)))), 0))) := by rfl
set_option maxRecDepth 100000 in
theorem b_X8_add_8 : (fun (v1 : Int32) (v2 : Int32) (v3 : Int32) (M : Mem) => run C_X8_add 2 (42, [some (.ref 19), some (.int v1), some (.int v2), some (.int v3)], [.int v1, .ref 19], (sI M 19 15 (if (d_X8_isElement v1 M) = 0 then (1 : Int32) else (if (d_X8_isElement v2 M) = 0 then (1 : Int32) else (0 : Int32)))), 0)) = (fun (v1 : Int32) (v2 : Int32) (v3 : Int32) (M : Mem) => some (.inl (47, [some (.ref 19), some (.int v1), some (.int v2), some (.int v3)], [.int (1 : Int32), .int v1, .ref 19], (sI M 19 15 (if (d_X8_isElement v1 M) = 0 then (1 : Int32) else (if (d_X8_isElement v2 M) = 0 then (1 : Int32) else (0 : Int32)))), 0))) := by rfl
theorem m_X8_add_2 (v1 : Int32) (v2 : Int32) (v3 : Int32) (M : Mem) : Rto C_X8_add (36, [some (.ref 19), some (.int v1), some (.int v2), some (.int v3)], [], (sI M 19 15 (if (d_X8_isElement v1 M) = 0 then (1 : Int32) else (if (d_X8_isElement v2 M) = 0 then (1 : Int32) else (0 : Int32)))), 0) (47, [some (.ref 19), some (.int v1), some (.int v2), some (.int v3)], [.int (if v3 = 0 then (-1 : Int32) else (1 : Int32)), .int v1, .ref 19], (sI M 19 15 (if (d_X8_isElement v1 M) = 0 then (1 : Int32) else (if (d_X8_isElement v2 M) = 0 then (1 : Int32) else (0 : Int32)))), 0) := by
  refine Rto.trans (Rto.run 4 (congrFun (congrFun (congrFun (congrFun b_X8_add_6 v1) v2) v3) M)) ?_
  by_cases h : v3 = 0
  · refine Rto.trans (Rto.brT (q := 46) h rfl) ?_
    refine Rto.trans (Rto.run 1 (congrFun (congrFun (congrFun (congrFun b_X8_add_7 v1) v2) v3) M)) ?_
    exact Rto.eq (by first | (simp only [if_pos h]; done) | rfl | exact absurd rfl h | (simp; done))
  · refine Rto.trans (Rto.brF (q := 42) h rfl) ?_
    refine Rto.trans (Rto.run 2 (congrFun (congrFun (congrFun (congrFun b_X8_add_8 v1) v2) v3) M)) ?_
    exact Rto.eq (by first | (simp only [if_neg h]; done) | rfl | exact absurd rfl h | (simp; done))
set_option maxRecDepth 100000 in
theorem b_X8_add_9 : (fun (v1 : Int32) (v2 : Int32) (v3 : Int32) (M : Mem) => run C_X8_add 1 (47, [some (.ref 19), some (.int v1), some (.int v2), some (.int v3)], [.int (if v3 = 0 then (-1 : Int32) else (1 : Int32)), .int v1, .ref 19], (sI M 19 15 (if (d_X8_isElement v1 M) = 0 then (1 : Int32) else (if (d_X8_isElement v2 M) = 0 then (1 : Int32) else (0 : Int32)))), 0)) = (fun (v1 : Int32) (v2 : Int32) (v3 : Int32) (M : Mem) => some (.inl (48, [some (.ref 19), some (.int v1), some (.int v2), some (.int v3)], [.int v2, .int (if v3 = 0 then (-1 : Int32) else (1 : Int32)), .int v1, .ref 19], (sI M 19 15 (if (d_X8_isElement v1 M) = 0 then (1 : Int32) else (if (d_X8_isElement v2 M) = 0 then (1 : Int32) else (0 : Int32)))), 0))) := by rfl
set_option maxRecDepth 100000 in
theorem b_X8_add_10 : (fun (v1 : Int32) (v2 : Int32) (v3 : Int32) (M : Mem) (w1 : Int32) => run C_X8_add 1 (51, [some (.ref 19), some (.int v1), some (.int v2), some (.int v3)], [.int w1], (sI M 19 15 (if (d_X8_isElement v1 M) = 0 then (1 : Int32) else (if (d_X8_isElement v2 M) = 0 then (1 : Int32) else (0 : Int32)))), 0)) = (fun (v1 : Int32) (v2 : Int32) (v3 : Int32) (M : Mem) (w1 : Int32) => some (.inr (.inl (some (.int w1)), (sI M 19 15 (if (d_X8_isElement v1 M) = 0 then (1 : Int32) else (if (d_X8_isElement v2 M) = 0 then (1 : Int32) else (0 : Int32)))), 0))) := by rfl
set_option maxRecDepth 100000 in
theorem b_X8_add_11 : (fun (v1 : Int32) (v2 : Int32) (v3 : Int32) (M : Mem) => run C_X8_add 3 (32, [some (.ref 19), some (.int v1), some (.int v2), some (.int v3)], [], (sI M 19 15 (if (d_X8_isElement v1 M) = 0 then (1 : Int32) else (if (d_X8_isElement v2 M) = 0 then (1 : Int32) else (0 : Int32)))), 0)) = (fun (v1 : Int32) (v2 : Int32) (v3 : Int32) (M : Mem) => some (.inr (.inl (some (.int (0 : Int32))), (sI M 19 15 (if (d_X8_isElement v1 M) = 0 then (1 : Int32) else (if (d_X8_isElement v2 M) = 0 then (1 : Int32) else (0 : Int32)))), 0))) := by rfl
def d_X8_add (v1 : Int32) (v2 : Int32) (v3 : Int32) (M : Mem) : Option (Res × Mem) := (if (if (d_X8_isElement v1 M) = 0 then (1 : Int32) else (if (d_X8_isElement v2 M) = 0 then (1 : Int32) else (0 : Int32))) ≤ 0 then ((d_X8_plus v1 (if v3 = 0 then (-1 : Int32) else (1 : Int32)) v2 (sI M 19 15 (if (d_X8_isElement v1 M) = 0 then (1 : Int32) else (if (d_X8_isElement v2 M) = 0 then (1 : Int32) else (0 : Int32))))).bind fun w1 => some (.inl (some (.int w1)), (sI M 19 15 (if (d_X8_isElement v1 M) = 0 then (1 : Int32) else (if (d_X8_isElement v2 M) = 0 then (1 : Int32) else (0 : Int32)))))) else some (.inl (some (.int (0 : Int32))), (sI M 19 15 (if (d_X8_isElement v1 M) = 0 then (1 : Int32) else (if (d_X8_isElement v2 M) = 0 then (1 : Int32) else (0 : Int32))))))
set_option maxHeartbeats 2000000 in
theorem r_X8_add (v1 : Int32) (v2 : Int32) (v3 : Int32) (M : Mem) : RG C_X8_add (0, [some (.ref 19), some (.int v1), some (.int v2), some (.int v3)], [], M, 0) (d_X8_add v1 v2 v3 M) (fun r => .inr r) := by
  unfold d_X8_add
  refine RG.step (m_X8_add_1 v1 v2 v3 M) ?_
  refine RG.st 4 (congrFun (congrFun (congrFun (congrFun b_X8_add_5 v1) v2) v3) M) ?_
  refine RG.ite (fun h1 => RG.brT (q := 36) h1 rfl ?_) (fun h1 => RG.brF (q := 32) h1 rfl ?_)
  · refine RG.step (m_X8_add_2 v1 v2 v3 M) ?_
    refine RG.st 1 (congrFun (congrFun (congrFun (congrFun b_X8_add_9 v1) v2) v3) M) ?_
    refine RG.bind (fun w1 h2 => RG.st 1 (run_callV (v := some (.int w1)) rfl rfl rfl rfl rfl (bindI h2)) ?_)
    show RG C_X8_add (51, [some (.ref 19), some (.int v1), some (.int v2), some (.int v3)], [.int w1], (sI M 19 15 (if (d_X8_isElement v1 M) = 0 then (1 : Int32) else (if (d_X8_isElement v2 M) = 0 then (1 : Int32) else (0 : Int32)))), 0) _ _
    exact RG.fin rfl (Rend.run 1 (congrFun (congrFun (congrFun (congrFun (congrFun b_X8_add_10 v1) v2) v3) M) w1))
  · exact RG.fin rfl (Rend.run 3 (congrFun (congrFun (congrFun (congrFun b_X8_add_11 v1) v2) v3) M))
def fn_X8_add : Fn := fun av M => match av with
  | [.ref r0, .int v1, .int v2, .int v3] => bif Nat.beq r0 19 then (d_X8_add v1 v2 v3 M) else (none)
  | _ => none
theorem cfg_X8_add : CfgOK RX8 cX8_add (C_X8_add) 3 := ⟨tk_X8_add, csF_nd, flk_X8, (List.forall_mem_cons.mpr ⟨Or.inr ⟨yX8_plus, cX8_plus, 4, (some .int), none, 2, ok_X8_plus, by decide, by decide, w_code_SumsetryModel_plus__III_I, w_initialized_SumsetryModel, ⟨by decide, by decide⟩, Or.inr (Or.inr ⟨rfl, rfl, show (parseMethodDescriptor yX8_plus.desc).map (fun d => d.parameters.length + 1) = some 4 from by decide +kernel, w_methodLink_SumsetryModel_68, w_instanceMethod_SumsetryModel_plus__III_I, w_selects_SumsetryModel_plus__III_I, ⟨_, rfl, rfl⟩⟩)⟩,
    List.forall_mem_cons.mpr ⟨Or.inr ⟨yX8_isElement, cX8_isElement, 2, (some .boolean), none, 2, ok_X8_isElement, by decide, by decide, w_code_SumsetryModel_isElement__I_Z, w_initialized_SumsetryModel, ⟨by decide, by decide⟩, Or.inr (Or.inr ⟨rfl, rfl, show (parseMethodDescriptor yX8_isElement.desc).map (fun d => d.parameters.length + 1) = some 2 from by decide +kernel, w_methodLink_SumsetryModel_78, w_instanceMethod_SumsetryModel_isElement__I_Z, w_selects_SumsetryModel_isElement__I_Z, ⟨_, rfl, rfl⟩⟩)⟩, fun _ h => absurd h List.not_mem_nil⟩⟩), ink_X8, lgk_X8, fun e h => absurd h List.not_mem_nil, (fun h hh => absurd hh List.not_mem_nil)⟩
theorem ok_X8_add : OkM csF yX8_add (Cond.code yX8_add cX8_add 4 (some .int)) 3 0 fn_X8_add :=
  OkM_of (own := RX8) (C := C_X8_add) (by decide +kernel) rfl (cfg_X8_add) rfl rfl rfl rfl (by
    intro av M o M' h
    unfold fn_X8_add at h
    split at h
    · rename_i r0 v1 v2 v3
      rcases bif_cs h with ⟨hb, h⟩ | ⟨-, h⟩
      · skip
        have hr0 := hb
        obtain rfl := Nat.eq_of_beq_eq_true hr0
        exact ⟨rfl, Nat.le_of_ble_eq_true rfl, (r_X8_add v1 v2 v3 M) (o, M') h⟩
      · cases h
    · cases h)
def t_X8_enters : List (Nat × Instr × Nat) := [(0, .aload_n 0, 1), (1, .getfield 16, 3), (4, .aload_n 0, 1), (5, .getfield 57, 3), (8, .lload_n 1, 1), (9, .lastore, 1), (10, .aload_n 0, 1), (11, .dup, 1), (12, .getfield 57, 3), (15, .iconst 1, 1), (16, .iadd, 1), (17, .putfield 57, 3), (20, .aload_n 0, 1), (21, .getfield 57, 3), (24, .iconst 1, 1), (25, .isub, 1), (26, .ireturn, 1)]
theorem tk_X8_enters : ∀ x ∈ t_X8_enters, decode cX8_enters x.1 = .ok x.2 := by decide +kernel
def C_X8_enters : Cfg := (t_X8_enters, csF, fl_X8, [], in_X8, lg_X8, [], [], none, (some .int), 0)
set_option maxRecDepth 100000 in
theorem b_X8_enters_0 : (fun (v1 : Int64) (M : Mem) => run C_X8_enters 5 (0, [some (.ref 19), some (.long v1), none], [], M, 0)) = (fun (v1 : Int64) (M : Mem) => some (.inl (9, [some (.ref 19), some (.long v1), none], [.long v1, .int (M.1 19 2), .ref 20], M, 0))) := by rfl
set_option maxRecDepth 100000 in
theorem b_X8_enters_1 : (fun (v1 : Int64) (M : Mem) => stp C_X8_enters (9, [some (.ref 19), some (.long v1), none], [.long v1, .int (M.1 19 2), .ref 20], M, 0)) = (fun (v1 : Int64) (M : Mem) => (if inb (M.1 19 2) 30 = true then some (.inl (10, [some (.ref 19), some (.long v1), none], [], (sL M 20 (ix (M.1 19 2)) v1), 0)) else none)) := by rfl
set_option maxRecDepth 100000 in
theorem b_X8_enters_2 : (fun (v1 : Int64) (M : Mem) => run C_X8_enters 11 (10, [some (.ref 19), some (.long v1), none], [], (sL M 20 (ix (M.1 19 2)) v1), 0)) = (fun (v1 : Int64) (M : Mem) => some (.inr (.inl (some (.int (((M.1 19 2) + (1 : Int32)) - (1 : Int32)))), (sI (sL M 20 (ix (M.1 19 2)) v1) 19 2 ((M.1 19 2) + (1 : Int32))), 0))) := by rfl
def d_X8_enters (v1 : Int64) (M : Mem) : Option (Res × Mem) := (if inb (M.1 19 2) 30 = true then some (.inl (some (.int (((M.1 19 2) + (1 : Int32)) - (1 : Int32)))), (sI (sL M 20 (ix (M.1 19 2)) v1) 19 2 ((M.1 19 2) + (1 : Int32)))) else none)
set_option maxHeartbeats 2000000 in
theorem r_X8_enters (v1 : Int64) (M : Mem) : RG C_X8_enters (0, [some (.ref 19), some (.long v1), none], [], M, 0) (d_X8_enters v1 M) (fun r => .inr r) := by
  unfold d_X8_enters
  refine RG.st 5 (congrFun (congrFun b_X8_enters_0 v1) M) ?_
  refine RG.guard (fun h1 => RG.st 1 (stp_g h1 (congrFun (congrFun b_X8_enters_1 v1) M)) ?_)
  exact RG.fin rfl (Rend.run 11 (congrFun (congrFun b_X8_enters_2 v1) M))
def fn_X8_enters : Fn := fun av M => match av with
  | [.ref r0, .long v1] => bif Nat.beq r0 19 then (d_X8_enters v1 M) else (none)
  | _ => none
theorem cfg_X8_enters : CfgOK RX8 cX8_enters (C_X8_enters) 1 := ⟨tk_X8_enters, csF_nd, flk_X8, (fun e h => absurd h List.not_mem_nil), ink_X8, lgk_X8, fun e h => absurd h List.not_mem_nil, (fun h hh => absurd hh List.not_mem_nil)⟩
theorem ok_X8_enters : OkM csF yX8_enters (Cond.code yX8_enters cX8_enters 3 (some .int)) 1 0 fn_X8_enters :=
  OkM_of (own := RX8) (C := C_X8_enters) (by decide +kernel) rfl (cfg_X8_enters) rfl rfl rfl rfl (by
    intro av M o M' h
    unfold fn_X8_enters at h
    split at h
    · rename_i r0 v1
      rcases bif_cs h with ⟨hb, h⟩ | ⟨-, h⟩
      · skip
        have hr0 := hb
        obtain rfl := Nat.eq_of_beq_eq_true hr0
        exact ⟨rfl, Nat.le_of_ble_eq_true rfl, (r_X8_enters v1 M) (o, M') h⟩
      · cases h
    · cases h)
def t_X8_set : List (Nat × Instr × Nat) := [(0, .aload_n 0, 1), (1, .lload_n 1, 1), (2, .lconst 0, 1), (3, .lcmp, 1), (4, .ifCond .eq 18, 3), (7, .lload_n 1, 1), (8, .aload_n 0, 1), (9, .invokevirtual 82, 3), (12, .ldc2_w 86, 3), (15, .lxor, 1), (16, .land, 1), (17, .lconst 0, 1), (18, .lcmp, 1), (19, .ifCond .eq 7, 3), (22, .iconst 1, 1), (23, .goto 17, 3), (26, .aload_n 0, 1), (27, .getfield 57, 3), (30, .bipush 30, 2), (32, .if_icmp .ne 7, 3), (35, .iconst 2, 1), (36, .goto 4, 3), (39, .iconst 0, 1), (40, .putfield 46, 3), (43, .aload_n 0, 1), (44, .getfield 46, 3), (47, .ifCond .le 7, 3), (50, .iconst 0, 1), (51, .goto 8, 3), (54, .aload_n 0, 1), (55, .lload_n 1, 1), (56, .invokevirtual 88, 3), (59, .ireturn, 1)]
theorem tk_X8_set : ∀ x ∈ t_X8_set, decode cX8_set x.1 = .ok x.2 := by decide +kernel
def C_X8_set : Cfg := (t_X8_set, csF, fl_X8, [(82, 2, 6, 1, 0, fn_X8_whole), (88, 2, 6, 2, 0, fn_X8_enters)], in_X8, lg_X8, [], [], none, (some .int), 0)
set_option maxRecDepth 100000 in
theorem b_X8_set_0 : (fun (v1 : Int64) (M : Mem) => run C_X8_set 5 (0, [some (.ref 19), some (.long v1), none], [], M, 0)) = (fun (v1 : Int64) (M : Mem) => some (.inl ((br (decide ((lg_cmp v1 (0 : Int64)) = 0)) 4 3 (18)), [some (.ref 19), some (.long v1), none], [.ref 19], M, 0))) := by rfl
set_option maxRecDepth 100000 in
theorem b_X8_set_1 : (fun (v1 : Int64) (M : Mem) => run C_X8_set 2 (22, [some (.ref 19), some (.long v1), none], [.ref 19], M, 0)) = (fun (v1 : Int64) (M : Mem) => some (.inl (40, [some (.ref 19), some (.long v1), none], [.int (1 : Int32), .ref 19], M, 0))) := by rfl
set_option maxRecDepth 100000 in
theorem b_X8_set_2 : (fun (v1 : Int64) (M : Mem) => run C_X8_set 9 (7, [some (.ref 19), some (.long v1), none], [.ref 19], M, 0)) = (fun (v1 : Int64) (M : Mem) => some (.inl ((br (decide ((lg_cmp (v1 &&& ((d_X8_whole M) ^^^ (-1 : Int64))) (0 : Int64)) = 0)) 19 3 (7)), [some (.ref 19), some (.long v1), none], [.ref 19], M, 0))) := by rfl
set_option maxRecDepth 100000 in
theorem b_X8_set_3 : (fun (v1 : Int64) (M : Mem) => run C_X8_set 4 (26, [some (.ref 19), some (.long v1), none], [.ref 19], M, 0)) = (fun (v1 : Int64) (M : Mem) => some (.inl ((br (!decide ((M.1 19 2) = (30 : Int32))) 32 3 (7)), [some (.ref 19), some (.long v1), none], [.ref 19], M, 0))) := by rfl
set_option maxRecDepth 100000 in
theorem b_X8_set_4 : (fun (v1 : Int64) (M : Mem) => run C_X8_set 1 (39, [some (.ref 19), some (.long v1), none], [.ref 19], M, 0)) = (fun (v1 : Int64) (M : Mem) => some (.inl (40, [some (.ref 19), some (.long v1), none], [.int (0 : Int32), .ref 19], M, 0))) := by rfl
set_option maxRecDepth 100000 in
theorem b_X8_set_5 : (fun (v1 : Int64) (M : Mem) => run C_X8_set 2 (35, [some (.ref 19), some (.long v1), none], [.ref 19], M, 0)) = (fun (v1 : Int64) (M : Mem) => some (.inl (40, [some (.ref 19), some (.long v1), none], [.int (2 : Int32), .ref 19], M, 0))) := by rfl
theorem m_X8_set_0 (v1 : Int64) (M : Mem) : Rto C_X8_set (26, [some (.ref 19), some (.long v1), none], [.ref 19], M, 0) (40, [some (.ref 19), some (.long v1), none], [.int (if (M.1 19 2) = (30 : Int32) then (2 : Int32) else (0 : Int32)), .ref 19], M, 0) := by
  refine Rto.trans (Rto.run 4 (congrFun (congrFun b_X8_set_3 v1) M)) ?_
  by_cases h : (M.1 19 2) = (30 : Int32)
  · refine Rto.trans (Rto.brNF (q := 35) h rfl) ?_
    refine Rto.trans (Rto.run 2 (congrFun (congrFun b_X8_set_5 v1) M)) ?_
    exact Rto.eq (by first | (simp only [if_pos h]; done) | rfl | exact absurd rfl h | (simp; done))
  · refine Rto.trans (Rto.brNT (q := 39) h rfl) ?_
    refine Rto.trans (Rto.run 1 (congrFun (congrFun b_X8_set_4 v1) M)) ?_
    exact Rto.eq (by first | (simp only [if_neg h]; done) | rfl | exact absurd rfl h | (simp; done))
set_option maxRecDepth 100000 in
theorem b_X8_set_6 : (fun (v1 : Int64) (M : Mem) => run C_X8_set 2 (22, [some (.ref 19), some (.long v1), none], [.ref 19], M, 0)) = (fun (v1 : Int64) (M : Mem) => some (.inl (40, [some (.ref 19), some (.long v1), none], [.int (1 : Int32), .ref 19], M, 0))) := by rfl
theorem m_X8_set_1 (v1 : Int64) (M : Mem) : Rto C_X8_set (7, [some (.ref 19), some (.long v1), none], [.ref 19], M, 0) (40, [some (.ref 19), some (.long v1), none], [.int (if (lg_cmp (v1 &&& ((d_X8_whole M) ^^^ (-1 : Int64))) (0 : Int64)) = 0 then (if (M.1 19 2) = (30 : Int32) then (2 : Int32) else (0 : Int32)) else (1 : Int32)), .ref 19], M, 0) := by
  refine Rto.trans (Rto.run 9 (congrFun (congrFun b_X8_set_2 v1) M)) ?_
  by_cases h : (lg_cmp (v1 &&& ((d_X8_whole M) ^^^ (-1 : Int64))) (0 : Int64)) = 0
  · refine Rto.trans (Rto.brT (q := 26) h rfl) ?_
    refine Rto.trans (m_X8_set_0 v1 M) ?_
    exact Rto.eq (by first | (simp only [if_pos h]; done) | rfl | exact absurd rfl h | (simp; done))
  · refine Rto.trans (Rto.brF (q := 22) h rfl) ?_
    refine Rto.trans (Rto.run 2 (congrFun (congrFun b_X8_set_6 v1) M)) ?_
    exact Rto.eq (by first | (simp only [if_neg h]; done) | rfl | exact absurd rfl h | (simp; done))
theorem m_X8_set_2 (v1 : Int64) (M : Mem) : Rto C_X8_set (0, [some (.ref 19), some (.long v1), none], [], M, 0) (40, [some (.ref 19), some (.long v1), none], [.int (if (lg_cmp v1 (0 : Int64)) = 0 then (1 : Int32) else (if (lg_cmp (v1 &&& ((d_X8_whole M) ^^^ (-1 : Int64))) (0 : Int64)) = 0 then (if (M.1 19 2) = (30 : Int32) then (2 : Int32) else (0 : Int32)) else (1 : Int32))), .ref 19], M, 0) := by
  refine Rto.trans (Rto.run 5 (congrFun (congrFun b_X8_set_0 v1) M)) ?_
  by_cases h : (lg_cmp v1 (0 : Int64)) = 0
  · refine Rto.trans (Rto.brT (q := 22) h rfl) ?_
    refine Rto.trans (Rto.run 2 (congrFun (congrFun b_X8_set_1 v1) M)) ?_
    exact Rto.eq (by first | (simp only [if_pos h]; done) | rfl | exact absurd rfl h | (simp; done))
  · refine Rto.trans (Rto.brF (q := 7) h rfl) ?_
    refine Rto.trans (m_X8_set_1 v1 M) ?_
    exact Rto.eq (by first | (simp only [if_neg h]; done) | rfl | exact absurd rfl h | (simp; done))
set_option maxRecDepth 100000 in
theorem b_X8_set_7 : (fun (v1 : Int64) (M : Mem) => run C_X8_set 4 (40, [some (.ref 19), some (.long v1), none], [.int (if (lg_cmp v1 (0 : Int64)) = 0 then (1 : Int32) else (if (lg_cmp (v1 &&& ((d_X8_whole M) ^^^ (-1 : Int64))) (0 : Int64)) = 0 then (if (M.1 19 2) = (30 : Int32) then (2 : Int32) else (0 : Int32)) else (1 : Int32))), .ref 19], M, 0)) = (fun (v1 : Int64) (M : Mem) => some (.inl ((br (decide ((if (lg_cmp v1 (0 : Int64)) = 0 then (1 : Int32) else (if (lg_cmp (v1 &&& ((d_X8_whole M) ^^^ (-1 : Int64))) (0 : Int64)) = 0 then (if (M.1 19 2) = (30 : Int32) then (2 : Int32) else (0 : Int32)) else (1 : Int32))) ≤ 0)) 47 3 (7)), [some (.ref 19), some (.long v1), none], [], (sI M 19 15 (if (lg_cmp v1 (0 : Int64)) = 0 then (1 : Int32) else (if (lg_cmp (v1 &&& ((d_X8_whole M) ^^^ (-1 : Int64))) (0 : Int64)) = 0 then (if (M.1 19 2) = (30 : Int32) then (2 : Int32) else (0 : Int32)) else (1 : Int32)))), 0))) := by rfl
set_option maxRecDepth 100000 in
theorem b_X8_set_8 : (fun (v1 : Int64) (M : Mem) => run C_X8_set 2 (54, [some (.ref 19), some (.long v1), none], [], (sI M 19 15 (if (lg_cmp v1 (0 : Int64)) = 0 then (1 : Int32) else (if (lg_cmp (v1 &&& ((d_X8_whole M) ^^^ (-1 : Int64))) (0 : Int64)) = 0 then (if (M.1 19 2) = (30 : Int32) then (2 : Int32) else (0 : Int32)) else (1 : Int32)))), 0)) = (fun (v1 : Int64) (M : Mem) => some (.inl (56, [some (.ref 19), some (.long v1), none], [.long v1, .ref 19], (sI M 19 15 (if (lg_cmp v1 (0 : Int64)) = 0 then (1 : Int32) else (if (lg_cmp (v1 &&& ((d_X8_whole M) ^^^ (-1 : Int64))) (0 : Int64)) = 0 then (if (M.1 19 2) = (30 : Int32) then (2 : Int32) else (0 : Int32)) else (1 : Int32)))), 0))) := by rfl
set_option maxRecDepth 100000 in
theorem b_X8_set_9 : (fun (v1 : Int64) (w2 : Int32) (M1 : Mem) => run C_X8_set 1 (59, [some (.ref 19), some (.long v1), none], [.int w2], M1, 0)) = (fun (v1 : Int64) (w2 : Int32) (M1 : Mem) => some (.inr (.inl (some (.int w2)), M1, 0))) := by rfl
set_option maxRecDepth 100000 in
theorem b_X8_set_10 : (fun (v1 : Int64) (M : Mem) => run C_X8_set 3 (50, [some (.ref 19), some (.long v1), none], [], (sI M 19 15 (if (lg_cmp v1 (0 : Int64)) = 0 then (1 : Int32) else (if (lg_cmp (v1 &&& ((d_X8_whole M) ^^^ (-1 : Int64))) (0 : Int64)) = 0 then (if (M.1 19 2) = (30 : Int32) then (2 : Int32) else (0 : Int32)) else (1 : Int32)))), 0)) = (fun (v1 : Int64) (M : Mem) => some (.inr (.inl (some (.int (0 : Int32))), (sI M 19 15 (if (lg_cmp v1 (0 : Int64)) = 0 then (1 : Int32) else (if (lg_cmp (v1 &&& ((d_X8_whole M) ^^^ (-1 : Int64))) (0 : Int64)) = 0 then (if (M.1 19 2) = (30 : Int32) then (2 : Int32) else (0 : Int32)) else (1 : Int32)))), 0))) := by rfl
def d_X8_set (v1 : Int64) (M : Mem) : Option (Res × Mem) := (if (if (lg_cmp v1 (0 : Int64)) = 0 then (1 : Int32) else (if (lg_cmp (v1 &&& ((d_X8_whole M) ^^^ (-1 : Int64))) (0 : Int64)) = 0 then (if (M.1 19 2) = (30 : Int32) then (2 : Int32) else (0 : Int32)) else (1 : Int32))) ≤ 0 then (onI (d_X8_enters v1 (sI M 19 15 (if (lg_cmp v1 (0 : Int64)) = 0 then (1 : Int32) else (if (lg_cmp (v1 &&& ((d_X8_whole M) ^^^ (-1 : Int64))) (0 : Int64)) = 0 then (if (M.1 19 2) = (30 : Int32) then (2 : Int32) else (0 : Int32)) else (1 : Int32))))) (fun w2 M1 => some (.inl (some (.int w2)), M1)) (fun r => some r)) else some (.inl (some (.int (0 : Int32))), (sI M 19 15 (if (lg_cmp v1 (0 : Int64)) = 0 then (1 : Int32) else (if (lg_cmp (v1 &&& ((d_X8_whole M) ^^^ (-1 : Int64))) (0 : Int64)) = 0 then (if (M.1 19 2) = (30 : Int32) then (2 : Int32) else (0 : Int32)) else (1 : Int32))))))
set_option maxHeartbeats 2000000 in
theorem r_X8_set (v1 : Int64) (M : Mem) : RG C_X8_set (0, [some (.ref 19), some (.long v1), none], [], M, 0) (d_X8_set v1 M) (fun r => .inr r) := by
  unfold d_X8_set
  refine RG.step (m_X8_set_2 v1 M) ?_
  refine RG.st 4 (congrFun (congrFun b_X8_set_7 v1) M) ?_
  refine RG.ite (fun h1 => RG.brT (q := 54) h1 rfl ?_) (fun h1 => RG.brF (q := 50) h1 rfl ?_)
  · refine RG.st 2 (congrFun (congrFun b_X8_set_8 v1) M) ?_
    refine RG.callI (fun w2 M1 h2 => RG.st 1 (run_callV (v := (some (.int w2))) rfl rfl rfl rfl rfl h2) ?_) (fun E M1 h2 => RG.fin rfl (Rend.run 1 (run_callVx rfl rfl rfl rfl rfl h2 rfl)))
    show RG C_X8_set (59, [some (.ref 19), some (.long v1), none], [.int w2], M1, 0) _ _
    exact RG.fin rfl (Rend.run 1 (congrFun (congrFun (congrFun b_X8_set_9 v1) w2) M1))
  · exact RG.fin rfl (Rend.run 3 (congrFun (congrFun b_X8_set_10 v1) M))
def fn_X8_set : Fn := fun av M => match av with
  | [.ref r0, .long v1] => bif Nat.beq r0 19 then (d_X8_set v1 M) else (none)
  | _ => none
theorem cfg_X8_set : CfgOK RX8 cX8_set (C_X8_set) 3 := ⟨tk_X8_set, csF_nd, flk_X8, (List.forall_mem_cons.mpr ⟨Or.inr ⟨yX8_whole, cX8_whole, 1, (some .long), none, 2, ok_X8_whole, by decide, by decide, w_code_SumsetryModel_whole___J, w_initialized_SumsetryModel, ⟨by decide, by decide⟩, Or.inr (Or.inr ⟨rfl, rfl, show (parseMethodDescriptor yX8_whole.desc).map (fun d => d.parameters.length + 1) = some 1 from by decide +kernel, w_methodLink_SumsetryModel_82, w_instanceMethod_SumsetryModel_whole___J, w_selects_SumsetryModel_whole___J, ⟨_, rfl, rfl⟩⟩)⟩,
    List.forall_mem_cons.mpr ⟨Or.inr ⟨yX8_enters, cX8_enters, 3, (some .int), none, 1, ok_X8_enters, by decide, by decide, w_code_SumsetryModel_enters__J_I, w_initialized_SumsetryModel, ⟨by decide, by decide⟩, Or.inr (Or.inr ⟨rfl, rfl, show (parseMethodDescriptor yX8_enters.desc).map (fun d => d.parameters.length + 1) = some 2 from by decide +kernel, w_methodLink_SumsetryModel_88, w_instanceMethod_SumsetryModel_enters__J_I, w_selects_SumsetryModel_enters__J_I, ⟨_, rfl, rfl⟩⟩)⟩, fun _ h => absurd h List.not_mem_nil⟩⟩), ink_X8, lgk_X8, fun e h => absurd h List.not_mem_nil, (fun h hh => absurd hh List.not_mem_nil)⟩
theorem ok_X8_set : OkM csF yX8_set (Cond.code yX8_set cX8_set 3 (some .int)) 3 0 fn_X8_set :=
  OkM_of (own := RX8) (C := C_X8_set) (by decide +kernel) rfl (cfg_X8_set) rfl rfl rfl rfl (by
    intro av M o M' h
    unfold fn_X8_set at h
    split at h
    · rename_i r0 v1
      rcases bif_cs h with ⟨hb, h⟩ | ⟨-, h⟩
      · skip
        have hr0 := hb
        obtain rfl := Nat.eq_of_beq_eq_true hr0
        exact ⟨rfl, Nat.le_of_ble_eq_true rfl, (r_X8_set v1 M) (o, M') h⟩
      · cases h
    · cases h)
def t_X8_allSums : List (Nat × Instr × Nat) := [(0, .lconst 0, 1), (1, .lstore 7, 2), (3, .iconst 0, 1), (4, .istore 9, 2), (6, .iload 9, 2), (8, .aload_n 0, 1), (9, .invokevirtual 49, 3), (12, .if_icmp .ge 90, 3), (15, .iconst 0, 1), (16, .istore 10, 2), (18, .iload 10, 2), (20, .aload_n 0, 1), (21, .invokevirtual 49, 3), (24, .if_icmp .ge 72, 3), (27, .lload_n 1, 1), (28, .iload 9, 2), (30, .invokestatic 60, 3), (33, .ifCond .eq 63, 3), (36, .lload 4, 2), (38, .iload 10, 2), (40, .invokestatic 60, 3), (43, .ifCond .eq 19, 3), (46, .iload 6, 2), (48, .ifCond .eq 10, 3), (51, .iload 9, 2), (53, .iload 10, 2), (55, .if_icmp .eq 7, 3), (58, .iconst 1, 1), (59, .goto 4, 3), (62, .iconst 0, 1), (63, .istore 11, 2), (65, .lload 7, 2), (67, .iload 11, 2), (69, .ifCond .eq 17, 3), (72, .lconst 1, 1), (73, .aload_n 0, 1), (74, .iload 9, 2), (76, .iload_n 3, 1), (77, .iload 10, 2), (79, .invokevirtual 68, 3), (82, .lshl, 1), (83, .goto 4, 3), (86, .lconst 0, 1), (87, .lor, 1), (88, .lstore 7, 2), (90, .iinc 10 1, 3), (93, .goto (-75), 3), (96, .iinc 9 1, 3), (99, .goto (-93), 3), (102, .lload 7, 2), (104, .lreturn, 1)]
theorem tk_X8_allSums : ∀ x ∈ t_X8_allSums, decode cX8_allSums x.1 = .ok x.2 := by decide +kernel
def C_X8_allSums : Cfg := (t_X8_allSums, csF, fl_X8, [(49, 2, 6, 1, 0, fn_X8_size), (60, 0, 6, 2, 0, fn_X8_has), (68, 2, 6, 4, 0, fn_X8_plus)], in_X8, lg_X8, [], [], none, (some .long), 0)
set_option maxRecDepth 100000 in
theorem b_X8_allSums_0 : (fun (v1 : Int64) (v3 : Int32) (v4 : Int64) (v6 : Int32) (M : Mem) => run C_X8_allSums 4 (0, [some (.ref 19), some (.long v1), none, some (.int v3), some (.long v4), none, some (.int v6), none, none, none, none, none], [], M, 0)) = (fun (v1 : Int64) (v3 : Int32) (v4 : Int64) (v6 : Int32) (M : Mem) => some (.inl (6, [some (.ref 19), some (.long v1), none, some (.int v3), some (.long v4), none, some (.int v6), some (.long (0 : Int64)), none, some (.int (0 : Int32)), none, none], [], M, 0))) := by rfl
set_option maxRecDepth 100000 in
theorem b_X8_allSums_1 : (fun (v1 : Int64) (v3 : Int32) (v4 : Int64) (v6 : Int32) (M : Mem) (a1 : (Int64 × Int32)) => run C_X8_allSums 4 (6, [some (.ref 19), some (.long v1), none, some (.int v3), some (.long v4), none, some (.int v6), some (.long a1.1), none, some (.int a1.2), none, none], [], M, 0)) = (fun (v1 : Int64) (v3 : Int32) (v4 : Int64) (v6 : Int32) (M : Mem) (a1 : (Int64 × Int32)) => some (.inl ((br (!decide (a1.2 < (d_X8_size M))) 12 3 (90)), [some (.ref 19), some (.long v1), none, some (.int v3), some (.long v4), none, some (.int v6), some (.long a1.1), none, some (.int a1.2), none, none], [], M, 0))) := by rfl
set_option maxRecDepth 100000 in
theorem b_X8_allSums_2 : (fun (v1 : Int64) (v3 : Int32) (v4 : Int64) (v6 : Int32) (M : Mem) (a1 : (Int64 × Int32)) => run C_X8_allSums 2 (15, [some (.ref 19), some (.long v1), none, some (.int v3), some (.long v4), none, some (.int v6), some (.long a1.1), none, some (.int a1.2), none, none], [], M, 0)) = (fun (v1 : Int64) (v3 : Int32) (v4 : Int64) (v6 : Int32) (M : Mem) (a1 : (Int64 × Int32)) => some (.inl (18, [some (.ref 19), some (.long v1), none, some (.int v3), some (.long v4), none, some (.int v6), some (.long a1.1), none, some (.int a1.2), some (.int (0 : Int32)), none], [], M, 0))) := by rfl
set_option maxRecDepth 100000 in
theorem b_X8_allSums_3 : (fun (v1 : Int64) (v3 : Int32) (v4 : Int64) (v6 : Int32) (M : Mem) (a1 : (Int64 × Int32)) (a2 : (Int64 × Int32)) => run C_X8_allSums 4 (18, [some (.ref 19), some (.long v1), none, some (.int v3), some (.long v4), none, some (.int v6), some (.long a2.1), none, some (.int a1.2), some (.int a2.2), none], [], M, 0)) = (fun (v1 : Int64) (v3 : Int32) (v4 : Int64) (v6 : Int32) (M : Mem) (a1 : (Int64 × Int32)) (a2 : (Int64 × Int32)) => some (.inl ((br (!decide (a2.2 < (d_X8_size M))) 24 3 (72)), [some (.ref 19), some (.long v1), none, some (.int v3), some (.long v4), none, some (.int v6), some (.long a2.1), none, some (.int a1.2), some (.int a2.2), none], [], M, 0))) := by rfl
set_option maxRecDepth 100000 in
theorem b_X8_allSums_4 : (fun (v1 : Int64) (v3 : Int32) (v4 : Int64) (v6 : Int32) (M : Mem) (a1 : (Int64 × Int32)) (a2 : (Int64 × Int32)) => run C_X8_allSums 4 (27, [some (.ref 19), some (.long v1), none, some (.int v3), some (.long v4), none, some (.int v6), some (.long a2.1), none, some (.int a1.2), some (.int a2.2), none], [], M, 0)) = (fun (v1 : Int64) (v3 : Int32) (v4 : Int64) (v6 : Int32) (M : Mem) (a1 : (Int64 × Int32)) (a2 : (Int64 × Int32)) => some (.inl ((br (decide ((d_X8_has v1 a1.2) = 0)) 33 3 (63)), [some (.ref 19), some (.long v1), none, some (.int v3), some (.long v4), none, some (.int v6), some (.long a2.1), none, some (.int a1.2), some (.int a2.2), none], [], M, 0))) := by rfl
set_option maxRecDepth 100000 in
theorem b_X8_allSums_5 : (fun (v1 : Int64) (v3 : Int32) (v4 : Int64) (v6 : Int32) (M : Mem) (a1 : (Int64 × Int32)) (a2 : (Int64 × Int32)) => run C_X8_allSums 4 (36, [some (.ref 19), some (.long v1), none, some (.int v3), some (.long v4), none, some (.int v6), some (.long a2.1), none, some (.int a1.2), some (.int a2.2), none], [], M, 0)) = (fun (v1 : Int64) (v3 : Int32) (v4 : Int64) (v6 : Int32) (M : Mem) (a1 : (Int64 × Int32)) (a2 : (Int64 × Int32)) => some (.inl ((br (decide ((d_X8_has v4 a2.2) = 0)) 43 3 (19)), [some (.ref 19), some (.long v1), none, some (.int v3), some (.long v4), none, some (.int v6), some (.long a2.1), none, some (.int a1.2), some (.int a2.2), none], [], M, 0))) := by rfl
set_option maxRecDepth 100000 in
theorem b_X8_allSums_6 : (fun (v1 : Int64) (v3 : Int32) (v4 : Int64) (v6 : Int32) (M : Mem) (a1 : (Int64 × Int32)) (a2 : (Int64 × Int32)) => run C_X8_allSums 1 (62, [some (.ref 19), some (.long v1), none, some (.int v3), some (.long v4), none, some (.int v6), some (.long a2.1), none, some (.int a1.2), some (.int a2.2), none], [], M, 0)) = (fun (v1 : Int64) (v3 : Int32) (v4 : Int64) (v6 : Int32) (M : Mem) (a1 : (Int64 × Int32)) (a2 : (Int64 × Int32)) => some (.inl (63, [some (.ref 19), some (.long v1), none, some (.int v3), some (.long v4), none, some (.int v6), some (.long a2.1), none, some (.int a1.2), some (.int a2.2), none], [.int (0 : Int32)], M, 0))) := by rfl
set_option maxRecDepth 100000 in
theorem b_X8_allSums_7 : (fun (v1 : Int64) (v3 : Int32) (v4 : Int64) (v6 : Int32) (M : Mem) (a1 : (Int64 × Int32)) (a2 : (Int64 × Int32)) => run C_X8_allSums 2 (46, [some (.ref 19), some (.long v1), none, some (.int v3), some (.long v4), none, some (.int v6), some (.long a2.1), none, some (.int a1.2), some (.int a2.2), none], [], M, 0)) = (fun (v1 : Int64) (v3 : Int32) (v4 : Int64) (v6 : Int32) (M : Mem) (a1 : (Int64 × Int32)) (a2 : (Int64 × Int32)) => some (.inl ((br (decide (v6 = 0)) 48 3 (10)), [some (.ref 19), some (.long v1), none, some (.int v3), some (.long v4), none, some (.int v6), some (.long a2.1), none, some (.int a1.2), some (.int a2.2), none], [], M, 0))) := by rfl
set_option maxRecDepth 100000 in
theorem b_X8_allSums_8 : (fun (v1 : Int64) (v3 : Int32) (v4 : Int64) (v6 : Int32) (M : Mem) (a1 : (Int64 × Int32)) (a2 : (Int64 × Int32)) => run C_X8_allSums 2 (58, [some (.ref 19), some (.long v1), none, some (.int v3), some (.long v4), none, some (.int v6), some (.long a2.1), none, some (.int a1.2), some (.int a2.2), none], [], M, 0)) = (fun (v1 : Int64) (v3 : Int32) (v4 : Int64) (v6 : Int32) (M : Mem) (a1 : (Int64 × Int32)) (a2 : (Int64 × Int32)) => some (.inl (63, [some (.ref 19), some (.long v1), none, some (.int v3), some (.long v4), none, some (.int v6), some (.long a2.1), none, some (.int a1.2), some (.int a2.2), none], [.int (1 : Int32)], M, 0))) := by rfl
set_option maxRecDepth 100000 in
theorem b_X8_allSums_9 : (fun (v1 : Int64) (v3 : Int32) (v4 : Int64) (v6 : Int32) (M : Mem) (a1 : (Int64 × Int32)) (a2 : (Int64 × Int32)) => run C_X8_allSums 3 (51, [some (.ref 19), some (.long v1), none, some (.int v3), some (.long v4), none, some (.int v6), some (.long a2.1), none, some (.int a1.2), some (.int a2.2), none], [], M, 0)) = (fun (v1 : Int64) (v3 : Int32) (v4 : Int64) (v6 : Int32) (M : Mem) (a1 : (Int64 × Int32)) (a2 : (Int64 × Int32)) => some (.inl ((br (decide (a1.2 = a2.2)) 55 3 (7)), [some (.ref 19), some (.long v1), none, some (.int v3), some (.long v4), none, some (.int v6), some (.long a2.1), none, some (.int a1.2), some (.int a2.2), none], [], M, 0))) := by rfl
set_option maxRecDepth 100000 in
theorem b_X8_allSums_10 : (fun (v1 : Int64) (v3 : Int32) (v4 : Int64) (v6 : Int32) (M : Mem) (a1 : (Int64 × Int32)) (a2 : (Int64 × Int32)) => run C_X8_allSums 1 (62, [some (.ref 19), some (.long v1), none, some (.int v3), some (.long v4), none, some (.int v6), some (.long a2.1), none, some (.int a1.2), some (.int a2.2), none], [], M, 0)) = (fun (v1 : Int64) (v3 : Int32) (v4 : Int64) (v6 : Int32) (M : Mem) (a1 : (Int64 × Int32)) (a2 : (Int64 × Int32)) => some (.inl (63, [some (.ref 19), some (.long v1), none, some (.int v3), some (.long v4), none, some (.int v6), some (.long a2.1), none, some (.int a1.2), some (.int a2.2), none], [.int (0 : Int32)], M, 0))) := by rfl
set_option maxRecDepth 100000 in
theorem b_X8_allSums_11 : (fun (v1 : Int64) (v3 : Int32) (v4 : Int64) (v6 : Int32) (M : Mem) (a1 : (Int64 × Int32)) (a2 : (Int64 × Int32)) => run C_X8_allSums 2 (58, [some (.ref 19), some (.long v1), none, some (.int v3), some (.long v4), none, some (.int v6), some (.long a2.1), none, some (.int a1.2), some (.int a2.2), none], [], M, 0)) = (fun (v1 : Int64) (v3 : Int32) (v4 : Int64) (v6 : Int32) (M : Mem) (a1 : (Int64 × Int32)) (a2 : (Int64 × Int32)) => some (.inl (63, [some (.ref 19), some (.long v1), none, some (.int v3), some (.long v4), none, some (.int v6), some (.long a2.1), none, some (.int a1.2), some (.int a2.2), none], [.int (1 : Int32)], M, 0))) := by rfl
theorem m_X8_allSums_0 (v1 : Int64) (v3 : Int32) (v4 : Int64) (v6 : Int32) (M : Mem) (a1 : (Int64 × Int32)) (a2 : (Int64 × Int32)) : Rto C_X8_allSums (51, [some (.ref 19), some (.long v1), none, some (.int v3), some (.long v4), none, some (.int v6), some (.long a2.1), none, some (.int a1.2), some (.int a2.2), none], [], M, 0) (63, [some (.ref 19), some (.long v1), none, some (.int v3), some (.long v4), none, some (.int v6), some (.long a2.1), none, some (.int a1.2), some (.int a2.2), none], [.int (if a1.2 = a2.2 then (0 : Int32) else (1 : Int32))], M, 0) := by
  refine Rto.trans (Rto.run 3 (congrFun (congrFun (congrFun (congrFun (congrFun (congrFun (congrFun b_X8_allSums_9 v1) v3) v4) v6) M) a1) a2)) ?_
  by_cases h : a1.2 = a2.2
  · refine Rto.trans (Rto.brT (q := 62) h rfl) ?_
    refine Rto.trans (Rto.run 1 (congrFun (congrFun (congrFun (congrFun (congrFun (congrFun (congrFun b_X8_allSums_10 v1) v3) v4) v6) M) a1) a2)) ?_
    exact Rto.eq (by first | (simp only [if_pos h]; done) | rfl | exact absurd rfl h | (simp; done))
  · refine Rto.trans (Rto.brF (q := 58) h rfl) ?_
    refine Rto.trans (Rto.run 2 (congrFun (congrFun (congrFun (congrFun (congrFun (congrFun (congrFun b_X8_allSums_11 v1) v3) v4) v6) M) a1) a2)) ?_
    exact Rto.eq (by first | (simp only [if_neg h]; done) | rfl | exact absurd rfl h | (simp; done))
theorem m_X8_allSums_1 (v1 : Int64) (v3 : Int32) (v4 : Int64) (v6 : Int32) (M : Mem) (a1 : (Int64 × Int32)) (a2 : (Int64 × Int32)) : Rto C_X8_allSums (46, [some (.ref 19), some (.long v1), none, some (.int v3), some (.long v4), none, some (.int v6), some (.long a2.1), none, some (.int a1.2), some (.int a2.2), none], [], M, 0) (63, [some (.ref 19), some (.long v1), none, some (.int v3), some (.long v4), none, some (.int v6), some (.long a2.1), none, some (.int a1.2), some (.int a2.2), none], [.int (if v6 = 0 then (1 : Int32) else (if a1.2 = a2.2 then (0 : Int32) else (1 : Int32)))], M, 0) := by
  refine Rto.trans (Rto.run 2 (congrFun (congrFun (congrFun (congrFun (congrFun (congrFun (congrFun b_X8_allSums_7 v1) v3) v4) v6) M) a1) a2)) ?_
  by_cases h : v6 = 0
  · refine Rto.trans (Rto.brT (q := 58) h rfl) ?_
    refine Rto.trans (Rto.run 2 (congrFun (congrFun (congrFun (congrFun (congrFun (congrFun (congrFun b_X8_allSums_8 v1) v3) v4) v6) M) a1) a2)) ?_
    exact Rto.eq (by first | (simp only [if_pos h]; done) | rfl | exact absurd rfl h | (simp; done))
  · refine Rto.trans (Rto.brF (q := 51) h rfl) ?_
    refine Rto.trans (m_X8_allSums_0 v1 v3 v4 v6 M a1 a2) ?_
    exact Rto.eq (by first | (simp only [if_neg h]; done) | rfl | exact absurd rfl h | (simp; done))
theorem m_X8_allSums_2 (v1 : Int64) (v3 : Int32) (v4 : Int64) (v6 : Int32) (M : Mem) (a1 : (Int64 × Int32)) (a2 : (Int64 × Int32)) : Rto C_X8_allSums (36, [some (.ref 19), some (.long v1), none, some (.int v3), some (.long v4), none, some (.int v6), some (.long a2.1), none, some (.int a1.2), some (.int a2.2), none], [], M, 0) (63, [some (.ref 19), some (.long v1), none, some (.int v3), some (.long v4), none, some (.int v6), some (.long a2.1), none, some (.int a1.2), some (.int a2.2), none], [.int (if (d_X8_has v4 a2.2) = 0 then (0 : Int32) else (if v6 = 0 then (1 : Int32) else (if a1.2 = a2.2 then (0 : Int32) else (1 : Int32))))], M, 0) := by
  refine Rto.trans (Rto.run 4 (congrFun (congrFun (congrFun (congrFun (congrFun (congrFun (congrFun b_X8_allSums_5 v1) v3) v4) v6) M) a1) a2)) ?_
  by_cases h : (d_X8_has v4 a2.2) = 0
  · refine Rto.trans (Rto.brT (q := 62) h rfl) ?_
    refine Rto.trans (Rto.run 1 (congrFun (congrFun (congrFun (congrFun (congrFun (congrFun (congrFun b_X8_allSums_6 v1) v3) v4) v6) M) a1) a2)) ?_
    exact Rto.eq (by first | (simp only [if_pos h]; done) | rfl | exact absurd rfl h | (simp; done))
  · refine Rto.trans (Rto.brF (q := 46) h rfl) ?_
    refine Rto.trans (m_X8_allSums_1 v1 v3 v4 v6 M a1 a2) ?_
    exact Rto.eq (by first | (simp only [if_neg h]; done) | rfl | exact absurd rfl h | (simp; done))
set_option maxRecDepth 100000 in
theorem b_X8_allSums_12 : (fun (v1 : Int64) (v3 : Int32) (v4 : Int64) (v6 : Int32) (M : Mem) (a1 : (Int64 × Int32)) (a2 : (Int64 × Int32)) => run C_X8_allSums 4 (63, [some (.ref 19), some (.long v1), none, some (.int v3), some (.long v4), none, some (.int v6), some (.long a2.1), none, some (.int a1.2), some (.int a2.2), none], [.int (if (d_X8_has v4 a2.2) = 0 then (0 : Int32) else (if v6 = 0 then (1 : Int32) else (if a1.2 = a2.2 then (0 : Int32) else (1 : Int32))))], M, 0)) = (fun (v1 : Int64) (v3 : Int32) (v4 : Int64) (v6 : Int32) (M : Mem) (a1 : (Int64 × Int32)) (a2 : (Int64 × Int32)) => some (.inl ((br (decide ((if (d_X8_has v4 a2.2) = 0 then (0 : Int32) else (if v6 = 0 then (1 : Int32) else (if a1.2 = a2.2 then (0 : Int32) else (1 : Int32)))) = 0)) 69 3 (17)), [some (.ref 19), some (.long v1), none, some (.int v3), some (.long v4), none, some (.int v6), some (.long a2.1), none, some (.int a1.2), some (.int a2.2), some (.int (if (d_X8_has v4 a2.2) = 0 then (0 : Int32) else (if v6 = 0 then (1 : Int32) else (if a1.2 = a2.2 then (0 : Int32) else (1 : Int32)))))], [.long a2.1], M, 0))) := by rfl
set_option maxRecDepth 100000 in
theorem b_X8_allSums_13 : (fun (v1 : Int64) (v3 : Int32) (v4 : Int64) (v6 : Int32) (M : Mem) (a1 : (Int64 × Int32)) (a2 : (Int64 × Int32)) => run C_X8_allSums 5 (86, [some (.ref 19), some (.long v1), none, some (.int v3), some (.long v4), none, some (.int v6), some (.long a2.1), none, some (.int a1.2), some (.int a2.2), some (.int (if (d_X8_has v4 a2.2) = 0 then (0 : Int32) else (if v6 = 0 then (1 : Int32) else (if a1.2 = a2.2 then (0 : Int32) else (1 : Int32)))))], [.long a2.1], M, 0)) = (fun (v1 : Int64) (v3 : Int32) (v4 : Int64) (v6 : Int32) (M : Mem) (a1 : (Int64 × Int32)) (a2 : (Int64 × Int32)) => some (.inl (18, [some (.ref 19), some (.long v1), none, some (.int v3), some (.long v4), none, some (.int v6), some (.long (a2.1 ||| (0 : Int64))), none, some (.int a1.2), some (.int (a2.2 + (1 : Int32))), some (.int (if (d_X8_has v4 a2.2) = 0 then (0 : Int32) else (if v6 = 0 then (1 : Int32) else (if a1.2 = a2.2 then (0 : Int32) else (1 : Int32)))))], [], M, 0))) := by rfl
set_option maxRecDepth 100000 in
theorem b_X8_allSums_14 : (fun (v1 : Int64) (v3 : Int32) (v4 : Int64) (v6 : Int32) (M : Mem) (a1 : (Int64 × Int32)) (a2 : (Int64 × Int32)) => run C_X8_allSums 5 (72, [some (.ref 19), some (.long v1), none, some (.int v3), some (.long v4), none, some (.int v6), some (.long a2.1), none, some (.int a1.2), some (.int a2.2), some (.int (if (d_X8_has v4 a2.2) = 0 then (0 : Int32) else (if v6 = 0 then (1 : Int32) else (if a1.2 = a2.2 then (0 : Int32) else (1 : Int32)))))], [.long a2.1], M, 0)) = (fun (v1 : Int64) (v3 : Int32) (v4 : Int64) (v6 : Int32) (M : Mem) (a1 : (Int64 × Int32)) (a2 : (Int64 × Int32)) => some (.inl (79, [some (.ref 19), some (.long v1), none, some (.int v3), some (.long v4), none, some (.int v6), some (.long a2.1), none, some (.int a1.2), some (.int a2.2), some (.int (if (d_X8_has v4 a2.2) = 0 then (0 : Int32) else (if v6 = 0 then (1 : Int32) else (if a1.2 = a2.2 then (0 : Int32) else (1 : Int32)))))], [.int a2.2, .int v3, .int a1.2, .ref 19, .long (1 : Int64), .long a2.1], M, 0))) := by rfl
set_option maxRecDepth 100000 in
theorem b_X8_allSums_15 : (fun (v1 : Int64) (v3 : Int32) (v4 : Int64) (v6 : Int32) (M : Mem) (a1 : (Int64 × Int32)) (a2 : (Int64 × Int32)) (w1 : Int32) => run C_X8_allSums 6 (82, [some (.ref 19), some (.long v1), none, some (.int v3), some (.long v4), none, some (.int v6), some (.long a2.1), none, some (.int a1.2), some (.int a2.2), some (.int (if (d_X8_has v4 a2.2) = 0 then (0 : Int32) else (if v6 = 0 then (1 : Int32) else (if a1.2 = a2.2 then (0 : Int32) else (1 : Int32)))))], [.int w1, .long (1 : Int64), .long a2.1], M, 0)) = (fun (v1 : Int64) (v3 : Int32) (v4 : Int64) (v6 : Int32) (M : Mem) (a1 : (Int64 × Int32)) (a2 : (Int64 × Int32)) (w1 : Int32) => some (.inl (18, [some (.ref 19), some (.long v1), none, some (.int v3), some (.long v4), none, some (.int v6), some (.long (a2.1 ||| (jshl (1 : Int64) w1))), none, some (.int a1.2), some (.int (a2.2 + (1 : Int32))), some (.int (if (d_X8_has v4 a2.2) = 0 then (0 : Int32) else (if v6 = 0 then (1 : Int32) else (if a1.2 = a2.2 then (0 : Int32) else (1 : Int32)))))], [], M, 0))) := by rfl
def g_X8_allSums_2 (v1 : Int64) (v3 : Int32) (v4 : Int64) (v6 : Int32) (M : Mem) (a1 : (Int64 × Int32)) : Int64 × Int32 → Option ((Int64 × Int32) ⊕ ((Int64 × Int32) ⊕ Int64)) := fun (a2 : Int64 × Int32) => (if a2.2 < (d_X8_size M) then (if (d_X8_has v1 a1.2) = 0 then some (.inr (.inl (a2.1, a2.2))) else (if (if (d_X8_has v4 a2.2) = 0 then (0 : Int32) else (if v6 = 0 then (1 : Int32) else (if a1.2 = a2.2 then (0 : Int32) else (1 : Int32)))) = 0 then some (.inl ((a2.1 ||| (0 : Int64)), (a2.2 + (1 : Int32)))) else ((d_X8_plus a1.2 v3 a2.2 M).bind fun w1 => some (.inl ((a2.1 ||| (jshl (1 : Int64) w1)), (a2.2 + (1 : Int32))))))) else some (.inr (.inl (a2.1, a2.2))))
set_option maxHeartbeats 2000000 in
theorem l_X8_allSums_2 (v1 : Int64) (v3 : Int32) (v4 : Int64) (v6 : Int32) (M : Mem) (a1 : (Int64 × Int32)) : ∀ a2 : Int64 × Int32, RG C_X8_allSums ((fun (a2 : Int64 × Int32) => (18, [some (.ref 19), some (.long v1), none, some (.int v3), some (.long v4), none, some (.int v6), some (.long a2.1), none, some (.int a1.2), some (.int a2.2), none], [], M, 0)) a2) (g_X8_allSums_2 v1 v3 v4 v6 M a1 a2) (lpP (fun (a2 : Int64 × Int32) => (18, [some (.ref 19), some (.long v1), none, some (.int v3), some (.long v4), none, some (.int v6), some (.long a2.1), none, some (.int a1.2), some (.int a2.2), none], [], M, 0)) (fun (a2 : Int64 × Int32) => (96, [some (.ref 19), some (.long v1), none, some (.int v3), some (.long v4), none, some (.int v6), some (.long a2.1), none, some (.int a1.2), some (.int a2.2), none], [], M, 0)) (fun (v : Int64) => (.inl (some (.long v)), M))) := by
  intro a2
  unfold g_X8_allSums_2
  show RG C_X8_allSums (18, [some (.ref 19), some (.long v1), none, some (.int v3), some (.long v4), none, some (.int v6), some (.long a2.1), none, some (.int a1.2), some (.int a2.2), none], [], M, 0) _ _
  refine RG.st 4 (congrFun (congrFun (congrFun (congrFun (congrFun (congrFun (congrFun b_X8_allSums_3 v1) v3) v4) v6) M) a1) a2) ?_
  refine RG.ite (fun h2 => RG.brNF (q := 27) h2 rfl ?_) (fun h2 => RG.brNT (q := 96) h2 rfl ?_)
  · refine RG.st 4 (congrFun (congrFun (congrFun (congrFun (congrFun (congrFun (congrFun b_X8_allSums_4 v1) v3) v4) v6) M) a1) a2) ?_
    refine RG.ite (fun h3 => RG.brT (q := 96) h3 rfl ?_) (fun h3 => RG.brF (q := 36) h3 rfl ?_)
    · exact RG.to rfl (Rto.refl _)
    · refine RG.step (m_X8_allSums_2 v1 v3 v4 v6 M a1 a2) ?_
      refine RG.st 4 (congrFun (congrFun (congrFun (congrFun (congrFun (congrFun (congrFun b_X8_allSums_12 v1) v3) v4) v6) M) a1) a2) ?_
      refine RG.ite (fun h4 => RG.brT (q := 86) h4 rfl ?_) (fun h4 => RG.brF (q := 72) h4 rfl ?_)
      · refine RG.st 5 (congrFun (congrFun (congrFun (congrFun (congrFun (congrFun (congrFun b_X8_allSums_13 v1) v3) v4) v6) M) a1) a2) ?_
        exact RG.to rfl (Rto.fgt [11] rfl)
      · refine RG.st 5 (congrFun (congrFun (congrFun (congrFun (congrFun (congrFun (congrFun b_X8_allSums_14 v1) v3) v4) v6) M) a1) a2) ?_
        refine RG.bind (fun w1 h5 => RG.st 1 (run_callV (v := some (.int w1)) rfl rfl rfl rfl rfl (bindI h5)) ?_)
        show RG C_X8_allSums (82, [some (.ref 19), some (.long v1), none, some (.int v3), some (.long v4), none, some (.int v6), some (.long a2.1), none, some (.int a1.2), some (.int a2.2), some (.int (if (d_X8_has v4 a2.2) = 0 then (0 : Int32) else (if v6 = 0 then (1 : Int32) else (if a1.2 = a2.2 then (0 : Int32) else (1 : Int32)))))], [.int w1, .long (1 : Int64), .long a2.1], M, 0) _ _
        refine RG.st 6 (congrFun (congrFun (congrFun (congrFun (congrFun (congrFun (congrFun (congrFun b_X8_allSums_15 v1) v3) v4) v6) M) a1) a2) w1) ?_
        exact RG.to rfl (Rto.fgt [11] rfl)
  · exact RG.to rfl (Rto.refl _)
set_option maxRecDepth 100000 in
theorem b_X8_allSums_16 : (fun (v1 : Int64) (v3 : Int32) (v4 : Int64) (v6 : Int32) (M : Mem) (a1 : (Int64 × Int32)) (a3 : (Int64 × Int32)) => run C_X8_allSums 2 (96, [some (.ref 19), some (.long v1), none, some (.int v3), some (.long v4), none, some (.int v6), some (.long a3.1), none, some (.int a1.2), some (.int a3.2), none], [], M, 0)) = (fun (v1 : Int64) (v3 : Int32) (v4 : Int64) (v6 : Int32) (M : Mem) (a1 : (Int64 × Int32)) (a3 : (Int64 × Int32)) => some (.inl (6, [some (.ref 19), some (.long v1), none, some (.int v3), some (.long v4), none, some (.int v6), some (.long a3.1), none, some (.int (a1.2 + (1 : Int32))), some (.int a3.2), none], [], M, 0))) := by rfl
def g_X8_allSums_1 (v1 : Int64) (v3 : Int32) (v4 : Int64) (v6 : Int32) (M : Mem) : Int64 × Int32 → Option ((Int64 × Int32) ⊕ ((Int64 × Int32) ⊕ Int64)) := fun (a1 : Int64 × Int32) => (if a1.2 < (d_X8_size M) then (onIt (iter (g_X8_allSums_2 v1 v3 v4 v6 M a1) 20000 (a1.1, (0 : Int32))) (fun (a3 : Int64 × Int32) => some (.inl (a3.1, (a1.2 + (1 : Int32))))) (fun r => some (.inr (.inr r)))) else some (.inr (.inl (a1.1, a1.2))))
set_option maxHeartbeats 2000000 in
theorem l_X8_allSums_1 (v1 : Int64) (v3 : Int32) (v4 : Int64) (v6 : Int32) (M : Mem) : ∀ a1 : Int64 × Int32, RG C_X8_allSums ((fun (a1 : Int64 × Int32) => (6, [some (.ref 19), some (.long v1), none, some (.int v3), some (.long v4), none, some (.int v6), some (.long a1.1), none, some (.int a1.2), none, none], [], M, 0)) a1) (g_X8_allSums_1 v1 v3 v4 v6 M a1) (lpP (fun (a1 : Int64 × Int32) => (6, [some (.ref 19), some (.long v1), none, some (.int v3), some (.long v4), none, some (.int v6), some (.long a1.1), none, some (.int a1.2), none, none], [], M, 0)) (fun (a1 : Int64 × Int32) => (102, [some (.ref 19), some (.long v1), none, some (.int v3), some (.long v4), none, some (.int v6), some (.long a1.1), none, some (.int a1.2), none, none], [], M, 0)) (fun (v : Int64) => (.inl (some (.long v)), M))) := by
  intro a1
  unfold g_X8_allSums_1
  show RG C_X8_allSums (6, [some (.ref 19), some (.long v1), none, some (.int v3), some (.long v4), none, some (.int v6), some (.long a1.1), none, some (.int a1.2), none, none], [], M, 0) _ _
  refine RG.st 4 (congrFun (congrFun (congrFun (congrFun (congrFun (congrFun b_X8_allSums_1 v1) v3) v4) v6) M) a1) ?_
  refine RG.ite (fun h1 => RG.brNF (q := 15) h1 rfl ?_) (fun h1 => RG.brNT (q := 102) h1 rfl ?_)
  · refine RG.st 2 (congrFun (congrFun (congrFun (congrFun (congrFun (congrFun b_X8_allSums_2 v1) v3) v4) v6) M) a1) ?_
    refine RG.loop (hd := (fun (a2 : Int64 × Int32) => (18, [some (.ref 19), some (.long v1), none, some (.int v3), some (.long v4), none, some (.int v6), some (.long a2.1), none, some (.int a1.2), some (.int a2.2), none], [], M, 0))) (ex := (fun (a2 : Int64 × Int32) => (96, [some (.ref 19), some (.long v1), none, some (.int v3), some (.long v4), none, some (.int v6), some (.long a2.1), none, some (.int a1.2), some (.int a2.2), none], [], M, 0))) (rt := (fun (v : Int64) => (.inl (some (.long v)), M))) (l_X8_allSums_2 v1 v3 v4 v6 M a1) (fun a3 => ?_) (fun r v h => by cases h; rfl)
    show RG C_X8_allSums (96, [some (.ref 19), some (.long v1), none, some (.int v3), some (.long v4), none, some (.int v6), some (.long a3.1), none, some (.int a1.2), some (.int a3.2), none], [], M, 0) _ _
    refine RG.st 2 (congrFun (congrFun (congrFun (congrFun (congrFun (congrFun (congrFun b_X8_allSums_16 v1) v3) v4) v6) M) a1) a3) ?_
    exact RG.to rfl (Rto.fgt [10] rfl)
  · exact RG.to rfl (Rto.refl _)
set_option maxRecDepth 100000 in
theorem b_X8_allSums_17 : (fun (v1 : Int64) (v3 : Int32) (v4 : Int64) (v6 : Int32) (M : Mem) (a4 : (Int64 × Int32)) => run C_X8_allSums 2 (102, [some (.ref 19), some (.long v1), none, some (.int v3), some (.long v4), none, some (.int v6), some (.long a4.1), none, some (.int a4.2), none, none], [], M, 0)) = (fun (v1 : Int64) (v3 : Int32) (v4 : Int64) (v6 : Int32) (M : Mem) (a4 : (Int64 × Int32)) => some (.inr (.inl (some (.long a4.1)), M, 0))) := by rfl
def d_X8_allSums (v1 : Int64) (v3 : Int32) (v4 : Int64) (v6 : Int32) (M : Mem) : Option Int64 := (onIt (iter (g_X8_allSums_1 v1 v3 v4 v6 M) 20000 ((0 : Int64), (0 : Int32))) (fun (a4 : Int64 × Int32) => some a4.1) (fun r => some r))
set_option maxHeartbeats 2000000 in
theorem r_X8_allSums (v1 : Int64) (v3 : Int32) (v4 : Int64) (v6 : Int32) (M : Mem) : RG C_X8_allSums (0, [some (.ref 19), some (.long v1), none, some (.int v3), some (.long v4), none, some (.int v6), none, none, none, none, none], [], M, 0) (d_X8_allSums v1 v3 v4 v6 M) (fun v => .inr (.inl (some (.long v)), M)) := by
  unfold d_X8_allSums
  refine RG.st 4 (congrFun (congrFun (congrFun (congrFun (congrFun b_X8_allSums_0 v1) v3) v4) v6) M) ?_
  refine RG.loop (hd := (fun (a1 : Int64 × Int32) => (6, [some (.ref 19), some (.long v1), none, some (.int v3), some (.long v4), none, some (.int v6), some (.long a1.1), none, some (.int a1.2), none, none], [], M, 0))) (ex := (fun (a1 : Int64 × Int32) => (102, [some (.ref 19), some (.long v1), none, some (.int v3), some (.long v4), none, some (.int v6), some (.long a1.1), none, some (.int a1.2), none, none], [], M, 0))) (rt := (fun (v : Int64) => (.inl (some (.long v)), M))) (l_X8_allSums_1 v1 v3 v4 v6 M) (fun a4 => ?_) (fun r v h => by cases h; rfl)
  show RG C_X8_allSums (102, [some (.ref 19), some (.long v1), none, some (.int v3), some (.long v4), none, some (.int v6), some (.long a4.1), none, some (.int a4.2), none, none], [], M, 0) _ _
  exact RG.fin rfl (Rend.run 2 (congrFun (congrFun (congrFun (congrFun (congrFun (congrFun b_X8_allSums_17 v1) v3) v4) v6) M) a4))
def fn_X8_allSums : Fn := fun av M => match av with
  | [.ref r0, .long v1, .int v3, .long v4, .int v6] => bif Nat.beq r0 19 then (d_X8_allSums v1 v3 v4 v6 M).bind fun v => some (.inl (some (.long v)), M) else (none)
  | _ => none
theorem cfg_X8_allSums : CfgOK RX8 cX8_allSums (C_X8_allSums) 3 := ⟨tk_X8_allSums, csF_nd, flk_X8, (List.forall_mem_cons.mpr ⟨Or.inr ⟨yX8_size, cX8_size, 1, (some .int), none, 1, ok_X8_size, by decide, by decide, w_code_SumsetryModel_size___I, w_initialized_SumsetryModel, ⟨by decide, by decide⟩, Or.inr (Or.inr ⟨rfl, rfl, show (parseMethodDescriptor yX8_size.desc).map (fun d => d.parameters.length + 1) = some 1 from by decide +kernel, w_methodLink_SumsetryModel_49, w_instanceMethod_SumsetryModel_size___I, w_selects_SumsetryModel_size___I, ⟨_, rfl, rfl⟩⟩)⟩,
    List.forall_mem_cons.mpr ⟨Or.inr ⟨yX8_has, cX8_has, 3, (some .boolean), none, 1, ok_X8_has, by decide, by decide, w_code_SumsetryModel_has__JI_Z, w_initialized_SumsetryModel, ⟨by decide, by decide⟩, Or.inl ⟨rfl, show (parseMethodDescriptor yX8_has.desc).map (fun d => d.parameters.length) = some 2 from by decide +kernel, w_methodLink_SumsetryModel_60, w_static_SumsetryModel_has__JI_Z⟩⟩,
    List.forall_mem_cons.mpr ⟨Or.inr ⟨yX8_plus, cX8_plus, 4, (some .int), none, 2, ok_X8_plus, by decide, by decide, w_code_SumsetryModel_plus__III_I, w_initialized_SumsetryModel, ⟨by decide, by decide⟩, Or.inr (Or.inr ⟨rfl, rfl, show (parseMethodDescriptor yX8_plus.desc).map (fun d => d.parameters.length + 1) = some 4 from by decide +kernel, w_methodLink_SumsetryModel_68, w_instanceMethod_SumsetryModel_plus__III_I, w_selects_SumsetryModel_plus__III_I, ⟨_, rfl, rfl⟩⟩)⟩, fun _ h => absurd h List.not_mem_nil⟩⟩⟩), ink_X8, lgk_X8, fun e h => absurd h List.not_mem_nil, (fun h hh => absurd hh List.not_mem_nil)⟩
theorem ok_X8_allSums : OkM csF yX8_allSums (Cond.code yX8_allSums cX8_allSums 12 (some .long)) 3 0 fn_X8_allSums :=
  OkM_of (own := RX8) (C := C_X8_allSums) (by decide +kernel) rfl (cfg_X8_allSums) rfl rfl rfl rfl (by
    intro av M o M' h
    unfold fn_X8_allSums at h
    split at h
    · rename_i r0 v1 v3 v4 v6
      rcases bif_cs h with ⟨hb, h⟩ | ⟨-, h⟩
      · skip
        have hr0 := hb
        obtain rfl := Nat.eq_of_beq_eq_true hr0
        obtain ⟨w, hw, h⟩ := bind_cs h
        cases h
        exact ⟨rfl, Nat.le_of_ble_eq_true rfl, (r_X8_allSums v1 v3 v4 v6 M) w hw⟩
      · cases h
    · cases h)
