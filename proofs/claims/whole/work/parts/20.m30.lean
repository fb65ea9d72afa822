/-! methods: L_transform, L_waysAnew, L_of, small -/
def t_L_transform : List (Nat × Instr × Nat) := [(0, .aload_n 3, 1), (1, .iconst 0, 1), (2, .aload_n 0, 1), (3, .iload_n 1, 1), (4, .iload_n 2, 1), (5, .invokevirtual 106, 3), (8, .i2l, 1), (9, .lastore, 1), (10, .goto 15, 3), (13, .astore 4, 2), (15, .iconst 1, 1), (16, .ireturn, 1), (17, .astore 4, 2), (19, .iconst 2, 1), (20, .ireturn, 1), (21, .astore 4, 2), (23, .iconst 3, 1), (24, .ireturn, 1), (25, .iconst 0, 1), (26, .ireturn, 1)]
theorem tk_L_transform : ∀ x ∈ t_L_transform, decode cL_transform x.1 = .ok x.2 := by decide +kernel
def C_L_transform : Cfg := (t_L_transform, csF, fl_L, [(106, 2, 5, 3, 2, fn_X7_transform)], in_L, lg_L, [], [(0, 10, 13, 19, "java/lang/IndexOutOfBoundsException"), (0, 10, 17, 13, "java/lang/IllegalArgumentException"), (0, 10, 21, 25, "java/lang/IllegalStateException")], none, (some .int), 2)
set_option maxRecDepth 100000 in
theorem b_L_transform_0 : (fun (v1 : Int32) (v2 : Int32) (M : Mem) => run C_L_transform 5 (0, [some (.ref 0), some (.int v1), some (.int v2), some (.ref 29), none], [], M, 0)) = (fun (v1 : Int32) (v2 : Int32) (M : Mem) => some (.inl (5, [some (.ref 0), some (.int v1), some (.int v2), some (.ref 29), none], [.int v2, .int v1, .ref 0, .int (0 : Int32), .ref 29], M, 0))) := by rfl
set_option maxRecDepth 100000 in
theorem b_L_transform_1 : (fun (v1 : Int32) (v2 : Int32) (w2 : Int32) (M1 : Mem) => run C_L_transform 1 (8, [some (.ref 0), some (.int v1), some (.int v2), some (.ref 29), none], [.int w2, .int (0 : Int32), .ref 29], M1, 2)) = (fun (v1 : Int32) (v2 : Int32) (w2 : Int32) (M1 : Mem) => some (.inl (9, [some (.ref 0), some (.int v1), some (.int v2), some (.ref 29), none], [.long w2.toInt64, .int (0 : Int32), .ref 29], M1, 2))) := by rfl
set_option maxRecDepth 100000 in
theorem b_L_transform_2 : (fun (v1 : Int32) (v2 : Int32) (w2 : Int32) (M1 : Mem) => stp C_L_transform (9, [some (.ref 0), some (.int v1), some (.int v2), some (.ref 29), none], [.long w2.toInt64, .int (0 : Int32), .ref 29], M1, 2)) = (fun (v1 : Int32) (v2 : Int32) (w2 : Int32) (M1 : Mem) => (if inb (0 : Int32) 1 = true then some (.inl (10, [some (.ref 0), some (.int v1), some (.int v2), some (.ref 29), none], [], (sL M1 29 (ix (0 : Int32)) w2.toInt64), 2)) else none)) := by rfl
set_option maxRecDepth 100000 in
theorem b_L_transform_3 : (fun (v1 : Int32) (v2 : Int32) (w2 : Int32) (M1 : Mem) => run C_L_transform 3 (10, [some (.ref 0), some (.int v1), some (.int v2), some (.ref 29), none], [], (sL M1 29 (ix (0 : Int32)) w2.toInt64), 2)) = (fun (v1 : Int32) (v2 : Int32) (w2 : Int32) (M1 : Mem) => some (.inr (.inl (some (.int (0 : Int32))), (sL M1 29 (ix (0 : Int32)) w2.toInt64), 2))) := by rfl
def d_L_transform (v1 : Int32) (v2 : Int32) (M : Mem) : Option (Res × Mem) := (onI (d_X7_transform v1 v2 M) (fun w2 M1 => (if inb (0 : Int32) 1 = true then some (.inl (some (.int (0 : Int32))), (sL M1 29 (ix (0 : Int32)) w2.toInt64)) else none)) (fun r => match r.1 with | .inr E => if E = "java/lang/IndexOutOfBoundsException" then some (.inl (some (.int (1 : Int32))), r.2) else if E = "java/lang/IllegalArgumentException" then some (.inl (some (.int (2 : Int32))), r.2) else if E = "java/lang/IllegalStateException" then some (.inl (some (.int (3 : Int32))), r.2) else none | _ => none))
set_option maxHeartbeats 2000000 in
theorem r_L_transform (v1 : Int32) (v2 : Int32) (M : Mem) : RG C_L_transform (0, [some (.ref 0), some (.int v1), some (.int v2), some (.ref 29), none], [], M, 0) (d_L_transform v1 v2 M) (fun r => .inr r) := by
  unfold d_L_transform
  refine RG.st 5 (congrFun (congrFun (congrFun b_L_transform_0 v1) v2) M) ?_
  refine RG.callI (fun w2 M1 h1 => RG.st 1 (run_callV (v := (some (.int w2))) rfl rfl rfl rfl rfl h1) ?_) (fun E M1 h1 => ?_)
  rotate_left
  · dsimp only
    refine RG.ite (fun h4 => RG.fin rfl (Rend.run 1 (run_callVh (r := (1 : Int32)) rfl rfl rfl rfl rfl h1 rfl (by rw [h4]; rfl)))) (fun h4 => ?_)
    refine RG.ite (fun h5 => RG.fin rfl (Rend.run 1 (run_callVh (r := (2 : Int32)) rfl rfl rfl rfl rfl h1 rfl (by rw [h5]; rfl)))) (fun h5 => ?_)
    refine RG.ite (fun h6 => RG.fin rfl (Rend.run 1 (run_callVh (r := (3 : Int32)) rfl rfl rfl rfl rfl h1 rfl (by rw [h6]; rfl)))) (fun h6 => ?_)
    exact RG.none
  · show RG C_L_transform (8, [some (.ref 0), some (.int v1), some (.int v2), some (.ref 29), none], [.int w2, .int (0 : Int32), .ref 29], M1, 2) _ _
    refine RG.st 1 (congrFun (congrFun (congrFun (congrFun b_L_transform_1 v1) v2) w2) M1) ?_
    refine RG.guard (fun h2 => RG.st 1 (stp_g h2 (congrFun (congrFun (congrFun (congrFun b_L_transform_2 v1) v2) w2) M1)) ?_)
    exact RG.fin rfl (Rend.run 3 (congrFun (congrFun (congrFun (congrFun b_L_transform_3 v1) v2) w2) M1))
def fn_L_transform : Fn := fun av M => match av with
  | [.ref r0, .int v1, .int v2, .ref r3] => bif Nat.beq r0 0 && Nat.beq r3 29 then (d_L_transform v1 v2 M) else (none)
  | _ => none
theorem cfg_L_transform : CfgOK RL cL_transform (C_L_transform) 8 := ⟨tk_L_transform, csF_nd, flk_L, (List.forall_mem_cons.mpr ⟨Or.inr ⟨yX7_transform, cX7_transform, 3, (some .int), none, 7, ok_X7_transform, by decide, by decide, w_code_Sumsetry_transform__II_I, w_initialized_Sumsetry, ⟨by decide, by decide⟩, Or.inr (Or.inr ⟨rfl, rfl, show (parseMethodDescriptor yX7_transform.desc).map (fun d => d.parameters.length + 1) = some 3 from by decide +kernel, w_methodLink_SumsetryLaw_106, w_instanceMethod_Sumsetry_transform__II_I, w_selects_Sumsetry_transform__II_I, ⟨_, rfl, rfl⟩⟩)⟩, fun _ h => absurd h List.not_mem_nil⟩), ink_L, lgk_L, fun e h => absurd h List.not_mem_nil, (List.forall_mem_cons.mpr ⟨⟨by decide, w_classLink_SumsetryLaw_19, by decide⟩, List.forall_mem_cons.mpr ⟨⟨by decide, w_classLink_SumsetryLaw_13, by decide⟩, List.forall_mem_cons.mpr ⟨⟨by decide, w_classLink_SumsetryLaw_25, by decide⟩, fun _ h => absurd h List.not_mem_nil⟩⟩⟩)⟩
theorem ok_L_transform : OkM csF yL_transform (Cond.codeWith yL_transform cL_transform 5 (some .int) [(0, 10, 13, 19), (0, 10, 17, 13), (0, 10, 21, 25)]) 8 2 fn_L_transform :=
  OkM_ofH (own := RL) (C := C_L_transform) (hh := [(0, 10, 13, 19), (0, 10, 17, 13), (0, 10, 21, 25)]) (by decide +kernel) rfl (cfg_L_transform) rfl rfl rfl rfl (by
    intro av M o M' h
    unfold fn_L_transform at h
    split at h
    · rename_i r0 v1 v2 r3
      rcases bif_cs h with ⟨hb, h⟩ | ⟨-, h⟩
      · simp only [Bool.and_eq_true] at hb
        obtain ⟨hr0, hr1⟩ := hb
        obtain rfl := Nat.eq_of_beq_eq_true hr0
        obtain rfl := Nat.eq_of_beq_eq_true hr1
        exact ⟨rfl, Nat.le_of_ble_eq_true rfl, (r_L_transform v1 v2 M) (o, M') h⟩
      · cases h
    · cases h)
def t_L_waysAnew : List (Nat × Instr × Nat) := [(0, .aload 4, 2), (2, .iconst 0, 1), (3, .aload_n 0, 1), (4, .iload_n 1, 1), (5, .iload_n 2, 1), (6, .iload_n 3, 1), (7, .invokevirtual 109, 3), (10, .i2l, 1), (11, .lastore, 1), (12, .goto 11, 3), (15, .astore 5, 2), (17, .iconst 1, 1), (18, .ireturn, 1), (19, .astore 5, 2), (21, .iconst 2, 1), (22, .ireturn, 1), (23, .iconst 0, 1), (24, .ireturn, 1)]
theorem tk_L_waysAnew : ∀ x ∈ t_L_waysAnew, decode cL_waysAnew x.1 = .ok x.2 := by decide +kernel
def C_L_waysAnew : Cfg := (t_L_waysAnew, csF, fl_L, [(109, 2, 5, 4, 4, fn_X7_waysAnew)], in_L, lg_L, [], [(0, 12, 15, 19, "java/lang/IndexOutOfBoundsException"), (0, 12, 19, 25, "java/lang/IllegalStateException")], none, (some .int), 4)
set_option maxRecDepth 100000 in
theorem b_L_waysAnew_0 : (fun (v1 : Int32) (v2 : Int32) (v3 : Int32) (M : Mem) => run C_L_waysAnew 6 (0, [some (.ref 0), some (.int v1), some (.int v2), some (.int v3), some (.ref 29), none], [], M, 0)) = (fun (v1 : Int32) (v2 : Int32) (v3 : Int32) (M : Mem) => some (.inl (7, [some (.ref 0), some (.int v1), some (.int v2), some (.int v3), some (.ref 29), none], [.int v3, .int v2, .int v1, .ref 0, .int (0 : Int32), .ref 29], M, 0))) := by rfl
set_option maxRecDepth 100000 in
theorem b_L_waysAnew_1 : (fun (v1 : Int32) (v2 : Int32) (v3 : Int32) (w2 : Int32) (M1 : Mem) => run C_L_waysAnew 1 (10, [some (.ref 0), some (.int v1), some (.int v2), some (.int v3), some (.ref 29), none], [.int w2, .int (0 : Int32), .ref 29], M1, 4)) = (fun (v1 : Int32) (v2 : Int32) (v3 : Int32) (w2 : Int32) (M1 : Mem) => some (.inl (11, [some (.ref 0), some (.int v1), some (.int v2), some (.int v3), some (.ref 29), none], [.long w2.toInt64, .int (0 : Int32), .ref 29], M1, 4))) := by rfl
set_option maxRecDepth 100000 in
theorem b_L_waysAnew_2 : (fun (v1 : Int32) (v2 : Int32) (v3 : Int32) (w2 : Int32) (M1 : Mem) => stp C_L_waysAnew (11, [some (.ref 0), some (.int v1), some (.int v2), some (.int v3), some (.ref 29), none], [.long w2.toInt64, .int (0 : Int32), .ref 29], M1, 4)) = (fun (v1 : Int32) (v2 : Int32) (v3 : Int32) (w2 : Int32) (M1 : Mem) => (if inb (0 : Int32) 1 = true then some (.inl (12, [some (.ref 0), some (.int v1), some (.int v2), some (.int v3), some (.ref 29), none], [], (sL M1 29 (ix (0 : Int32)) w2.toInt64), 4)) else none)) := by rfl
set_option maxRecDepth 100000 in
theorem b_L_waysAnew_3 : (fun (v1 : Int32) (v2 : Int32) (v3 : Int32) (w2 : Int32) (M1 : Mem) => run C_L_waysAnew 3 (12, [some (.ref 0), some (.int v1), some (.int v2), some (.int v3), some (.ref 29), none], [], (sL M1 29 (ix (0 : Int32)) w2.toInt64), 4)) = (fun (v1 : Int32) (v2 : Int32) (v3 : Int32) (w2 : Int32) (M1 : Mem) => some (.inr (.inl (some (.int (0 : Int32))), (sL M1 29 (ix (0 : Int32)) w2.toInt64), 4))) := by rfl
def d_L_waysAnew (v1 : Int32) (v2 : Int32) (v3 : Int32) (M : Mem) : Option (Res × Mem) := (onI (d_X7_waysAnew v1 v2 v3 M) (fun w2 M1 => (if inb (0 : Int32) 1 = true then some (.inl (some (.int (0 : Int32))), (sL M1 29 (ix (0 : Int32)) w2.toInt64)) else none)) (fun r => match r.1 with | .inr E => if E = "java/lang/IndexOutOfBoundsException" then some (.inl (some (.int (1 : Int32))), r.2) else if E = "java/lang/IllegalStateException" then some (.inl (some (.int (2 : Int32))), r.2) else none | _ => none))
set_option maxHeartbeats 2000000 in
theorem r_L_waysAnew (v1 : Int32) (v2 : Int32) (v3 : Int32) (M : Mem) : RG C_L_waysAnew (0, [some (.ref 0), some (.int v1), some (.int v2), some (.int v3), some (.ref 29), none], [], M, 0) (d_L_waysAnew v1 v2 v3 M) (fun r => .inr r) := by
  unfold d_L_waysAnew
  refine RG.st 6 (congrFun (congrFun (congrFun (congrFun b_L_waysAnew_0 v1) v2) v3) M) ?_
  refine RG.callI (fun w2 M1 h1 => RG.st 1 (run_callV (v := (some (.int w2))) rfl rfl rfl rfl rfl h1) ?_) (fun E M1 h1 => ?_)
  rotate_left
  · dsimp only
    refine RG.ite (fun h4 => RG.fin rfl (Rend.run 1 (run_callVh (r := (1 : Int32)) rfl rfl rfl rfl rfl h1 rfl (by rw [h4]; rfl)))) (fun h4 => ?_)
    refine RG.ite (fun h5 => RG.fin rfl (Rend.run 1 (run_callVh (r := (2 : Int32)) rfl rfl rfl rfl rfl h1 rfl (by rw [h5]; rfl)))) (fun h5 => ?_)
    exact RG.none
  · show RG C_L_waysAnew (10, [some (.ref 0), some (.int v1), some (.int v2), some (.int v3), some (.ref 29), none], [.int w2, .int (0 : Int32), .ref 29], M1, 4) _ _
    refine RG.st 1 (congrFun (congrFun (congrFun (congrFun (congrFun b_L_waysAnew_1 v1) v2) v3) w2) M1) ?_
    refine RG.guard (fun h2 => RG.st 1 (stp_g h2 (congrFun (congrFun (congrFun (congrFun (congrFun b_L_waysAnew_2 v1) v2) v3) w2) M1)) ?_)
    exact RG.fin rfl (Rend.run 3 (congrFun (congrFun (congrFun (congrFun (congrFun b_L_waysAnew_3 v1) v2) v3) w2) M1))
def fn_L_waysAnew : Fn := fun av M => match av with
  | [.ref r0, .int v1, .int v2, .int v3, .ref r4] => bif Nat.beq r0 0 && Nat.beq r4 29 then (d_L_waysAnew v1 v2 v3 M) else (none)
  | _ => none
theorem cfg_L_waysAnew : CfgOK RL cL_waysAnew (C_L_waysAnew) 8 := ⟨tk_L_waysAnew, csF_nd, flk_L, (List.forall_mem_cons.mpr ⟨Or.inr ⟨yX7_waysAnew, cX7_waysAnew, 4, (some .int), none, 7, ok_X7_waysAnew, by decide, by decide, w_code_Sumsetry_waysAnew__III_I, w_initialized_Sumsetry, ⟨by decide, by decide⟩, Or.inr (Or.inr ⟨rfl, rfl, show (parseMethodDescriptor yX7_waysAnew.desc).map (fun d => d.parameters.length + 1) = some 4 from by decide +kernel, w_methodLink_SumsetryLaw_109, w_instanceMethod_Sumsetry_waysAnew__III_I, w_selects_Sumsetry_waysAnew__III_I, ⟨_, rfl, rfl⟩⟩)⟩, fun _ h => absurd h List.not_mem_nil⟩), ink_L, lgk_L, fun e h => absurd h List.not_mem_nil, (List.forall_mem_cons.mpr ⟨⟨by decide, w_classLink_SumsetryLaw_19, by decide⟩, List.forall_mem_cons.mpr ⟨⟨by decide, w_classLink_SumsetryLaw_25, by decide⟩, fun _ h => absurd h List.not_mem_nil⟩⟩)⟩
theorem ok_L_waysAnew : OkM csF yL_waysAnew (Cond.codeWith yL_waysAnew cL_waysAnew 6 (some .int) [(0, 12, 15, 19), (0, 12, 19, 25)]) 8 4 fn_L_waysAnew :=
  OkM_ofH (own := RL) (C := C_L_waysAnew) (hh := [(0, 12, 15, 19), (0, 12, 19, 25)]) (by decide +kernel) rfl (cfg_L_waysAnew) rfl rfl rfl rfl (by
    intro av M o M' h
    unfold fn_L_waysAnew at h
    split at h
    · rename_i r0 v1 v2 v3 r4
      rcases bif_cs h with ⟨hb, h⟩ | ⟨-, h⟩
      · simp only [Bool.and_eq_true] at hb
        obtain ⟨hr0, hr1⟩ := hb
        obtain rfl := Nat.eq_of_beq_eq_true hr0
        obtain rfl := Nat.eq_of_beq_eq_true hr1
        exact ⟨rfl, Nat.le_of_ble_eq_true rfl, (r_L_waysAnew v1 v2 v3 M) (o, M') h⟩
      · cases h
    · cases h)
def t_L_of : List (Nat × Instr × Nat) := [(0, .aload_n 2, 1), (1, .iconst 0, 1), (2, .aload_n 0, 1), (3, .iload_n 1, 1), (4, .invokevirtual 112, 3), (7, .i2l, 1), (8, .lastore, 1), (9, .goto 6, 3), (12, .astore_n 3, 1), (13, .iconst 1, 1), (14, .ireturn, 1), (15, .iconst 0, 1), (16, .ireturn, 1)]
theorem tk_L_of : ∀ x ∈ t_L_of, decode cL_of x.1 = .ok x.2 := by decide +kernel
def C_L_of : Cfg := (t_L_of, csF, fl_L, [(112, 2, 5, 2, 1, fn_X7_of)], in_L, lg_L, [], [(0, 9, 12, 13, "java/lang/IllegalArgumentException")], none, (some .int), 1)
set_option maxRecDepth 100000 in
theorem b_L_of_0 : (fun (v1 : Int32) (M : Mem) => run C_L_of 4 (0, [some (.ref 0), some (.int v1), some (.ref 29), none], [], M, 0)) = (fun (v1 : Int32) (M : Mem) => some (.inl (4, [some (.ref 0), some (.int v1), some (.ref 29), none], [.int v1, .ref 0, .int (0 : Int32), .ref 29], M, 0))) := by rfl
set_option maxRecDepth 100000 in
theorem b_L_of_1 : (fun (v1 : Int32) (w2 : Int32) (M1 : Mem) => run C_L_of 1 (7, [some (.ref 0), some (.int v1), some (.ref 29), none], [.int w2, .int (0 : Int32), .ref 29], M1, 1)) = (fun (v1 : Int32) (w2 : Int32) (M1 : Mem) => some (.inl (8, [some (.ref 0), some (.int v1), some (.ref 29), none], [.long w2.toInt64, .int (0 : Int32), .ref 29], M1, 1))) := by rfl
set_option maxRecDepth 100000 in
theorem b_L_of_2 : (fun (v1 : Int32) (w2 : Int32) (M1 : Mem) => stp C_L_of (8, [some (.ref 0), some (.int v1), some (.ref 29), none], [.long w2.toInt64, .int (0 : Int32), .ref 29], M1, 1)) = (fun (v1 : Int32) (w2 : Int32) (M1 : Mem) => (if inb (0 : Int32) 1 = true then some (.inl (9, [some (.ref 0), some (.int v1), some (.ref 29), none], [], (sL M1 29 (ix (0 : Int32)) w2.toInt64), 1)) else none)) := by rfl
set_option maxRecDepth 100000 in
theorem b_L_of_3 : (fun (v1 : Int32) (w2 : Int32) (M1 : Mem) => run C_L_of 3 (9, [some (.ref 0), some (.int v1), some (.ref 29), none], [], (sL M1 29 (ix (0 : Int32)) w2.toInt64), 1)) = (fun (v1 : Int32) (w2 : Int32) (M1 : Mem) => some (.inr (.inl (some (.int (0 : Int32))), (sL M1 29 (ix (0 : Int32)) w2.toInt64), 1))) := by rfl
def d_L_of (v1 : Int32) (M : Mem) : Option (Res × Mem) := (onI (d_X7_of v1 M) (fun w2 M1 => (if inb (0 : Int32) 1 = true then some (.inl (some (.int (0 : Int32))), (sL M1 29 (ix (0 : Int32)) w2.toInt64)) else none)) (fun r => match r.1 with | .inr E => if E = "java/lang/IllegalArgumentException" then some (.inl (some (.int (1 : Int32))), r.2) else none | _ => none))
set_option maxHeartbeats 2000000 in
theorem r_L_of (v1 : Int32) (M : Mem) : RG C_L_of (0, [some (.ref 0), some (.int v1), some (.ref 29), none], [], M, 0) (d_L_of v1 M) (fun r => .inr r) := by
  unfold d_L_of
  refine RG.st 4 (congrFun (congrFun b_L_of_0 v1) M) ?_
  refine RG.callI (fun w2 M1 h1 => RG.st 1 (run_callV (v := (some (.int w2))) rfl rfl rfl rfl rfl h1) ?_) (fun E M1 h1 => ?_)
  rotate_left
  · dsimp only
    refine RG.ite (fun h4 => RG.fin rfl (Rend.run 1 (run_callVh (r := (1 : Int32)) rfl rfl rfl rfl rfl h1 rfl (by rw [h4]; rfl)))) (fun h4 => ?_)
    exact RG.none
  · show RG C_L_of (7, [some (.ref 0), some (.int v1), some (.ref 29), none], [.int w2, .int (0 : Int32), .ref 29], M1, 1) _ _
    refine RG.st 1 (congrFun (congrFun (congrFun b_L_of_1 v1) w2) M1) ?_
    refine RG.guard (fun h2 => RG.st 1 (stp_g h2 (congrFun (congrFun (congrFun b_L_of_2 v1) w2) M1)) ?_)
    exact RG.fin rfl (Rend.run 3 (congrFun (congrFun (congrFun b_L_of_3 v1) w2) M1))
def fn_L_of : Fn := fun av M => match av with
  | [.ref r0, .int v1, .ref r2] => bif Nat.beq r0 0 && Nat.beq r2 29 then (d_L_of v1 M) else (none)
  | _ => none
theorem cfg_L_of : CfgOK RL cL_of (C_L_of) 7 := ⟨tk_L_of, csF_nd, flk_L, (List.forall_mem_cons.mpr ⟨Or.inr ⟨yX7_of, cX7_of, 2, (some .int), none, 6, ok_X7_of, by decide, by decide, w_code_Sumsetry_of__I_I, w_initialized_Sumsetry, ⟨by decide, by decide⟩, Or.inr (Or.inr ⟨rfl, rfl, show (parseMethodDescriptor yX7_of.desc).map (fun d => d.parameters.length + 1) = some 2 from by decide +kernel, w_methodLink_SumsetryLaw_112, w_instanceMethod_Sumsetry_of__I_I, w_selects_Sumsetry_of__I_I, ⟨_, rfl, rfl⟩⟩)⟩, fun _ h => absurd h List.not_mem_nil⟩), ink_L, lgk_L, fun e h => absurd h List.not_mem_nil, (List.forall_mem_cons.mpr ⟨⟨by decide, w_classLink_SumsetryLaw_13, by decide⟩, fun _ h => absurd h List.not_mem_nil⟩)⟩
theorem ok_L_of : OkM csF yL_of (Cond.codeWith yL_of cL_of 4 (some .int) [(0, 9, 12, 13)]) 7 1 fn_L_of :=
  OkM_ofH (own := RL) (C := C_L_of) (hh := [(0, 9, 12, 13)]) (by decide +kernel) rfl (cfg_L_of) rfl rfl rfl rfl (by
    intro av M o M' h
    unfold fn_L_of at h
    split at h
    · rename_i r0 v1 r2
      rcases bif_cs h with ⟨hb, h⟩ | ⟨-, h⟩
      · simp only [Bool.and_eq_true] at hb
        obtain ⟨hr0, hr1⟩ := hb
        obtain rfl := Nat.eq_of_beq_eq_true hr0
        obtain rfl := Nat.eq_of_beq_eq_true hr1
        exact ⟨rfl, Nat.le_of_ble_eq_true rfl, (r_L_of v1 M) (o, M') h⟩
      · cases h
    · cases h)
def C_X7_rests : Cfg := (t_X7_rest, csS, fl_X7, [], in_X7, lg_X7, [], [], none, (some .int), 0)
set_option maxRecDepth 100000 in
theorem b_X7_rests_0 : (fun (v0 : Int32) (v1 : Int32) (M : Mem) => run C_X7_rests 3 (0, [some (.int v0), some (.int v1), none], [], M, 0)) = (fun (v0 : Int32) (v1 : Int32) (M : Mem) => some (.inl ((br (!decide (v1 < (1 : Int32))) 2 3 (5)), [some (.int v0), some (.int v1), none], [], M, 0))) := by rfl
set_option maxRecDepth 100000 in
theorem b_X7_rests_1 : (fun (v0 : Int32) (v1 : Int32) (M : Mem) => run C_X7_rests 2 (5, [some (.int v0), some (.int v1), none], [], M, 0)) = (fun (v0 : Int32) (v1 : Int32) (M : Mem) => some (.inr (.inl (some (.int (0 : Int32))), M, 0))) := by rfl
set_option maxRecDepth 100000 in
theorem b_X7_rests_2 : (fun (v0 : Int32) (v1 : Int32) (M : Mem) => run C_X7_rests 2 (7, [some (.int v0), some (.int v1), none], [], M, 0)) = (fun (v0 : Int32) (v1 : Int32) (M : Mem) => some (.inl (9, [some (.int v0), some (.int v1), none], [.int v1, .int v0], M, 0))) := by rfl
set_option maxRecDepth 100000 in
theorem b_X7_rests_3 : (fun (v0 : Int32) (v1 : Int32) (M : Mem) => stp C_X7_rests (9, [some (.int v0), some (.int v1), none], [.int v1, .int v0], M, 0)) = (fun (v0 : Int32) (v1 : Int32) (M : Mem) => (if v1 = 0 then none else some (.inl (10, [some (.int v0), some (.int v1), none], [.int (jrem v0 v1)], M, 0)))) := by rfl
set_option maxRecDepth 100000 in
theorem b_X7_rests_4 : (fun (v0 : Int32) (v1 : Int32) (M : Mem) => run C_X7_rests 3 (10, [some (.int v0), some (.int v1), none], [.int (jrem v0 v1)], M, 0)) = (fun (v0 : Int32) (v1 : Int32) (M : Mem) => some (.inl ((br (!decide ((jrem v0 v1) < 0)) 12 3 (9)), [some (.int v0), some (.int v1), some (.int (jrem v0 v1))], [], M, 0))) := by rfl
set_option maxRecDepth 100000 in
theorem b_X7_rests_5 : (fun (v0 : Int32) (v1 : Int32) (M : Mem) => run C_X7_rests 5 (15, [some (.int v0), some (.int v1), some (.int (jrem v0 v1))], [], M, 0)) = (fun (v0 : Int32) (v1 : Int32) (M : Mem) => some (.inr (.inl (some (.int ((jrem v0 v1) + v1))), M, 0))) := by rfl
set_option maxRecDepth 100000 in
theorem b_X7_rests_6 : (fun (v0 : Int32) (v1 : Int32) (M : Mem) => run C_X7_rests 2 (21, [some (.int v0), some (.int v1), some (.int (jrem v0 v1))], [], M, 0)) = (fun (v0 : Int32) (v1 : Int32) (M : Mem) => some (.inr (.inl (some (.int (jrem v0 v1))), M, 0))) := by rfl
set_option maxHeartbeats 2000000 in
theorem r_X7_rests (v0 : Int32) (v1 : Int32) (M : Mem) : RG C_X7_rests (0, [some (.int v0), some (.int v1), none], [], M, 0) (some (d_X7_rest v0 v1)) (fun v => .inr (.inl (some (.int v)), M)) := by
  unfold d_X7_rest
  refine RG.st 3 (congrFun (congrFun (congrFun b_X7_rests_0 v0) v1) M) ?_
  refine RG.ites (fun h1 => RG.brNF (q := 5) h1 rfl ?_) (fun h1 => RG.brNT (q := 7) h1 rfl ?_)
  · exact RG.fin rfl (Rend.run 2 (congrFun (congrFun (congrFun b_X7_rests_1 v0) v1) M))
  · refine RG.st 2 (congrFun (congrFun (congrFun b_X7_rests_2 v0) v1) M) ?_
    have h2 : ¬ (v1 = 0) := (by intro h0; rw [h0] at h1; exact h1 (by decide))
    refine RG.st 1 (stp_gN h2 (congrFun (congrFun (congrFun b_X7_rests_3 v0) v1) M)) ?_
    refine RG.st 3 (congrFun (congrFun (congrFun b_X7_rests_4 v0) v1) M) ?_
    refine RG.ites (fun h3 => RG.brNF (q := 15) h3 rfl ?_) (fun h3 => RG.brNT (q := 21) h3 rfl ?_)
    · exact RG.fin rfl (Rend.run 5 (congrFun (congrFun (congrFun b_X7_rests_5 v0) v1) M))
    · exact RG.fin rfl (Rend.run 2 (congrFun (congrFun (congrFun b_X7_rests_6 v0) v1) M))
theorem cfg_X7_rests : CfgOK RX7 cX7_rest (C_X7_rests) 1 := ⟨tk_X7_rest, csS_nd, flk_X7, (fun e h => absurd h List.not_mem_nil), ink_X7, lgk_X7, fun e h => absurd h List.not_mem_nil, (fun h hh => absurd hh List.not_mem_nil)⟩
theorem ok_X7_rests : OkM csS yX7_rest (Cond.code yX7_rest cX7_rest 3 (some .int)) 1 0 fn_X7_rest :=
  OkM_of (own := RX7) (C := C_X7_rests) (by decide +kernel) rfl (cfg_X7_rests) rfl rfl rfl rfl (by
    intro av M o M' h
    unfold fn_X7_rest at h
    split at h
    · rename_i v0 v1
      cases h
      exact ⟨rfl, Nat.le_of_ble_eq_true rfl, (r_X7_rests v0 v1 M) _ rfl⟩
    · cases h)
def C_X7_shares : Cfg := (t_X7_share, csS, fl_X7, [], in_X7, lg_X7, [], [], none, (some .int), 0)
set_option maxRecDepth 100000 in
theorem b_X7_shares_0 : (fun (v0 : Int32) (v1 : Int32) (M : Mem) => run C_X7_shares 3 (0, [some (.int v0), some (.int v1)], [], M, 0)) = (fun (v0 : Int32) (v1 : Int32) (M : Mem) => some (.inl ((br (!decide (v1 < (1 : Int32))) 2 3 (7)), [some (.int v0), some (.int v1)], [], M, 0))) := by rfl
set_option maxRecDepth 100000 in
theorem b_X7_shares_1 : (fun (v0 : Int32) (v1 : Int32) (M : Mem) => run C_X7_shares 3 (5, [some (.int v0), some (.int v1)], [], M, 0)) = (fun (v0 : Int32) (v1 : Int32) (M : Mem) => some (.inr (.inl (some (.int (0 : Int32))), M, 0))) := by rfl
set_option maxRecDepth 100000 in
theorem b_X7_shares_2 : (fun (v0 : Int32) (v1 : Int32) (M : Mem) => run C_X7_shares 2 (9, [some (.int v0), some (.int v1)], [], M, 0)) = (fun (v0 : Int32) (v1 : Int32) (M : Mem) => some (.inl (11, [some (.int v0), some (.int v1)], [.int v1, .int v0], M, 0))) := by rfl
set_option maxRecDepth 100000 in
theorem b_X7_shares_3 : (fun (v0 : Int32) (v1 : Int32) (M : Mem) => stp C_X7_shares (11, [some (.int v0), some (.int v1)], [.int v1, .int v0], M, 0)) = (fun (v0 : Int32) (v1 : Int32) (M : Mem) => (if v1 = 0 then none else some (.inl (12, [some (.int v0), some (.int v1)], [.int (v0 / v1)], M, 0)))) := by rfl
set_option maxRecDepth 100000 in
theorem b_X7_shares_4 : (fun (v0 : Int32) (v1 : Int32) (M : Mem) => run C_X7_shares 1 (12, [some (.int v0), some (.int v1)], [.int (v0 / v1)], M, 0)) = (fun (v0 : Int32) (v1 : Int32) (M : Mem) => some (.inr (.inl (some (.int (v0 / v1))), M, 0))) := by rfl
set_option maxHeartbeats 2000000 in
theorem r_X7_shares (v0 : Int32) (v1 : Int32) (M : Mem) : RG C_X7_shares (0, [some (.int v0), some (.int v1)], [], M, 0) (some (d_X7_share v0 v1)) (fun v => .inr (.inl (some (.int v)), M)) := by
  unfold d_X7_share
  refine RG.st 3 (congrFun (congrFun (congrFun b_X7_shares_0 v0) v1) M) ?_
  refine RG.ites (fun h1 => RG.brNF (q := 5) h1 rfl ?_) (fun h1 => RG.brNT (q := 9) h1 rfl ?_)
  · exact RG.fin rfl (Rend.run 3 (congrFun (congrFun (congrFun b_X7_shares_1 v0) v1) M))
  · refine RG.st 2 (congrFun (congrFun (congrFun b_X7_shares_2 v0) v1) M) ?_
    have h2 : ¬ (v1 = 0) := (by intro h0; rw [h0] at h1; exact h1 (by decide))
    refine RG.st 1 (stp_gN h2 (congrFun (congrFun (congrFun b_X7_shares_3 v0) v1) M)) ?_
    exact RG.fin rfl (Rend.run 1 (congrFun (congrFun (congrFun b_X7_shares_4 v0) v1) M))
theorem cfg_X7_shares : CfgOK RX7 cX7_share (C_X7_shares) 1 := ⟨tk_X7_share, csS_nd, flk_X7, (fun e h => absurd h List.not_mem_nil), ink_X7, lgk_X7, fun e h => absurd h List.not_mem_nil, (fun h hh => absurd hh List.not_mem_nil)⟩
theorem ok_X7_shares : OkM csS yX7_share (Cond.code yX7_share cX7_share 2 (some .int)) 1 0 fn_X7_share :=
  OkM_of (own := RX7) (C := C_X7_shares) (by decide +kernel) rfl (cfg_X7_shares) rfl rfl rfl rfl (by
    intro av M o M' h
    unfold fn_X7_share at h
    split at h
    · rename_i v0 v1
      cases h
      exact ⟨rfl, Nat.le_of_ble_eq_true rfl, (r_X7_shares v0 v1 M) _ rfl⟩
    · cases h)
def C_X7_bits : Cfg := (t_X7_bit, csS, fl_X7, [], in_X7, lg_X7, [], [], none, (some .long), 0)
set_option maxRecDepth 100000 in
theorem b_X7_bits_0 : (fun (v0 : Int32) (M : Mem) => run C_X7_bits 4 (0, [some (.int v0)], [], M, 0)) = (fun (v0 : Int32) (M : Mem) => some (.inr (.inl (some (.long (jshl (1 : Int64) v0))), M, 0))) := by rfl
set_option maxHeartbeats 2000000 in
theorem r_X7_bits (v0 : Int32) (M : Mem) : RG C_X7_bits (0, [some (.int v0)], [], M, 0) (some (d_X7_bit v0)) (fun v => .inr (.inl (some (.long v)), M)) := by
  unfold d_X7_bit
  exact RG.fin rfl (Rend.run 4 (congrFun (congrFun b_X7_bits_0 v0) M))
theorem cfg_X7_bits : CfgOK RX7 cX7_bit (C_X7_bits) 1 := ⟨tk_X7_bit, csS_nd, flk_X7, (fun e h => absurd h List.not_mem_nil), ink_X7, lgk_X7, fun e h => absurd h List.not_mem_nil, (fun h hh => absurd hh List.not_mem_nil)⟩
theorem ok_X7_bits : OkM csS yX7_bit (Cond.code yX7_bit cX7_bit 1 (some .long)) 1 0 fn_X7_bit :=
  OkM_of (own := RX7) (C := C_X7_bits) (by decide +kernel) rfl (cfg_X7_bits) rfl rfl rfl rfl (by
    intro av M o M' h
    unfold fn_X7_bit at h
    split at h
    · rename_i v0
      cases h
      exact ⟨rfl, Nat.le_of_ble_eq_true rfl, (r_X7_bits v0 M) _ rfl⟩
    · cases h)
def C_X7_lays : Cfg := (t_X7_lay, csS, fl_X7, [], in_X7, lg_X7, [], [], none, none, 0)
set_option maxRecDepth 100000 in
theorem b_X7_lay_k3s_0 : (fun (v1 : Int32) (v2 : Int32) (M : Mem) => run C_X7_lays 2 (0, [some (.ref 3), some (.int v1), some (.int v2)], [], M, 0)) = (fun (v1 : Int32) (v2 : Int32) (M : Mem) => some (.inl ((br (decide (v1 < 0)) 1 3 (13)), [some (.ref 3), some (.int v1), some (.int v2)], [], M, 0))) := by rfl
set_option maxRecDepth 100000 in
theorem b_X7_lay_k3s_1 : (fun (v1 : Int32) (v2 : Int32) (M : Mem) => run C_X7_lays 1 (14, [some (.ref 3), some (.int v1), some (.int v2)], [], M, 0)) = (fun (v1 : Int32) (v2 : Int32) (M : Mem) => some (.inr (.inl none, M, 0))) := by rfl
set_option maxRecDepth 100000 in
theorem b_X7_lay_k3s_2 : (fun (v1 : Int32) (v2 : Int32) (M : Mem) => run C_X7_lays 4 (4, [some (.ref 3), some (.int v1), some (.int v2)], [], M, 0)) = (fun (v1 : Int32) (v2 : Int32) (M : Mem) => some (.inl ((br (!decide (v1 < (36 : Int32))) 7 3 (7)), [some (.ref 3), some (.int v1), some (.int v2)], [], M, 0))) := by rfl
set_option maxRecDepth 100000 in
theorem b_X7_lay_k3s_3 : (fun (v1 : Int32) (v2 : Int32) (M : Mem) => run C_X7_lays 3 (10, [some (.ref 3), some (.int v1), some (.int v2)], [], M, 0)) = (fun (v1 : Int32) (v2 : Int32) (M : Mem) => some (.inl (13, [some (.ref 3), some (.int v1), some (.int v2)], [.int v2, .int v1, .ref 3], M, 0))) := by rfl
set_option maxRecDepth 100000 in
theorem b_X7_lay_k3s_4 : (fun (v1 : Int32) (v2 : Int32) (M : Mem) => stp C_X7_lays (13, [some (.ref 3), some (.int v1), some (.int v2)], [.int v2, .int v1, .ref 3], M, 0)) = (fun (v1 : Int32) (v2 : Int32) (M : Mem) => (if inb v1 36 = true then some (.inl (14, [some (.ref 3), some (.int v1), some (.int v2)], [], (sI M 3 (ix v1) v2), 0)) else none)) := by rfl
set_option maxRecDepth 100000 in
theorem b_X7_lay_k3s_5 : (fun (v1 : Int32) (v2 : Int32) (M : Mem) => run C_X7_lays 1 (14, [some (.ref 3), some (.int v1), some (.int v2)], [], (sI M 3 (ix v1) v2), 0)) = (fun (v1 : Int32) (v2 : Int32) (M : Mem) => some (.inr (.inl none, (sI M 3 (ix v1) v2), 0))) := by rfl
set_option maxRecDepth 100000 in
theorem b_X7_lay_k3s_6 : (fun (v1 : Int32) (v2 : Int32) (M : Mem) => run C_X7_lays 1 (14, [some (.ref 3), some (.int v1), some (.int v2)], [], M, 0)) = (fun (v1 : Int32) (v2 : Int32) (M : Mem) => some (.inr (.inl none, M, 0))) := by rfl
set_option maxHeartbeats 2000000 in
theorem r_X7_lay_k3s (v1 : Int32) (v2 : Int32) (M : Mem) : RG C_X7_lays (0, [some (.ref 3), some (.int v1), some (.int v2)], [], M, 0) (some (d_X7_lay 3 36 v1 v2 M)) (fun m => .inr (.inl none, m)) := by
  unfold d_X7_lay
  refine RG.st 2 (congrFun (congrFun (congrFun b_X7_lay_k3s_0 v1) v2) M) ?_
  refine RG.ites (fun h1 => RG.brT (q := 14) h1 rfl ?_) (fun h1 => RG.brF (q := 4) h1 rfl ?_)
  · exact RG.fin rfl (Rend.run 1 (congrFun (congrFun (congrFun b_X7_lay_k3s_1 v1) v2) M))
  · refine RG.st 4 (congrFun (congrFun (congrFun b_X7_lay_k3s_2 v1) v2) M) ?_
    refine RG.ites (fun h2 => RG.brNF (q := 10) h2 rfl ?_) (fun h2 => RG.brNT (q := 14) h2 rfl ?_)
    · refine RG.st 3 (congrFun (congrFun (congrFun b_X7_lay_k3s_3 v1) v2) M) ?_
      have h3 : (inb v1 36 = true) := inb_of h1 h2 (by decide) (by decide)
      refine RG.st 1 (stp_g h3 (congrFun (congrFun (congrFun b_X7_lay_k3s_4 v1) v2) M)) ?_
      exact RG.fin rfl (Rend.run 1 (congrFun (congrFun (congrFun b_X7_lay_k3s_5 v1) v2) M))
    · exact RG.fin rfl (Rend.run 1 (congrFun (congrFun (congrFun b_X7_lay_k3s_6 v1) v2) M))
theorem cfg_X7_lays : CfgOK RX7 cX7_lay (C_X7_lays) 1 := ⟨tk_X7_lay, csS_nd, flk_X7, (fun e h => absurd h List.not_mem_nil), ink_X7, lgk_X7, fun e h => absurd h List.not_mem_nil, (fun h hh => absurd hh List.not_mem_nil)⟩
def fn_X7_lay3 : Fn := fun av M => match av with
  | [.ref r0, .int v1, .int v2] => (bif Nat.beq r0 3 then some (.inl none, d_X7_lay 3 36 v1 v2 M) else none)
  | _ => none
theorem ok_X7_lays : OkM csS yX7_lay (Cond.code yX7_lay cX7_lay 3 none) 1 0 fn_X7_lay3 :=
  OkM_of (own := RX7) (C := C_X7_lays) (by decide +kernel) rfl (cfg_X7_lays) rfl rfl rfl rfl (by
    intro av M o M' h
    unfold fn_X7_lay3 at h
    split at h
    · rename_i r0 v1 v2
      rcases bif_cs h with ⟨hb, h⟩ | ⟨-, h⟩
      · skip
        have hr0 := hb
        obtain rfl := Nat.eq_of_beq_eq_true hr0
        cases h
        exact ⟨rfl, Nat.le_of_ble_eq_true rfl, (r_X7_lay_k3s v1 v2 M) _ rfl⟩
      · cases h
    · cases h)
def C_X1_multipleS : Cfg := (t_X1_multiple, csS, fl_X1, [(53, 1, 5, 2, 0, fn_X7_share), (56, 1, 5, 2, 0, fn_X7_rest)], in_X1, lg_X1, [], [], none, (some .int), 0)
set_option maxRecDepth 100000 in
theorem b_X1_multipleS_0 : (fun (v1 : Int32) (v2 : Int32) (M : Mem) => run C_X1_multipleS 23 (0, [some (.ref 2), some (.int v1), some (.int v2)], [], M, 0)) = (fun (v1 : Int32) (v2 : Int32) (M : Mem) => some (.inr (.inl (some (.int (((M.1 2 1) * (d_X7_rest (v1 * (d_X7_share v2 (M.1 2 1))) (M.1 2 0))) + (d_X7_rest (v1 * (d_X7_rest v2 (M.1 2 1))) (M.1 2 1))))), M, 0))) := by rfl
set_option maxHeartbeats 2000000 in
theorem r_X1_multipleS (v1 : Int32) (v2 : Int32) (M : Mem) : RG C_X1_multipleS (0, [some (.ref 2), some (.int v1), some (.int v2)], [], M, 0) (some (d_X1_multiple v1 v2 M)) (fun v => .inr (.inl (some (.int v)), M)) := by
  unfold d_X1_multiple
  exact RG.fin rfl (Rend.run 23 (congrFun (congrFun (congrFun b_X1_multipleS_0 v1) v2) M))
theorem cfg_X1_multipleS : CfgOK RX1 cX1_multiple (C_X1_multipleS) 2 := ⟨tk_X1_multiple, csS_nd, flk_X1, (List.forall_mem_cons.mpr ⟨Or.inr ⟨yX7_share, cX7_share, 2, (some .int), none, 1, ok_X7_shares, by decide, by decide, w_code_Sumsetry_share__II_I, w_initialized_Sumsetry, ⟨by decide, by decide⟩, Or.inr (Or.inl ⟨rfl, rfl, show (parseMethodDescriptor yX7_share.desc).map (fun d => d.parameters.length) = some 2 from by decide +kernel, ⟨"Sumsetry", by decide +kernel⟩, w_static_Sumsetry_share__II_I⟩)⟩,
    List.forall_mem_cons.mpr ⟨Or.inr ⟨yX7_rest, cX7_rest, 3, (some .int), none, 1, ok_X7_rests, by decide, by decide, w_code_Sumsetry_rest__II_I, w_initialized_Sumsetry, ⟨by decide, by decide⟩, Or.inr (Or.inl ⟨rfl, rfl, show (parseMethodDescriptor yX7_rest.desc).map (fun d => d.parameters.length) = some 2 from by decide +kernel, ⟨"Sumsetry", by decide +kernel⟩, w_static_Sumsetry_rest__II_I⟩)⟩, fun _ h => absurd h List.not_mem_nil⟩⟩), ink_X1, lgk_X1, fun e h => absurd h List.not_mem_nil, (fun h hh => absurd hh List.not_mem_nil)⟩
theorem ok_X1_multipleS : OkM csS yX1_multiple (Cond.code yX1_multiple cX1_multiple 3 (some .int)) 2 0 fn_X1_multiple :=
  OkM_of (own := RX1) (C := C_X1_multipleS) (by decide +kernel) rfl (cfg_X1_multipleS) rfl rfl rfl rfl (by
    intro av M o M' h
    unfold fn_X1_multiple at h
    split at h
    · rename_i r0 v1 v2
      rcases bif_cs h with ⟨hb, h⟩ | ⟨-, h⟩
      · skip
        have hr0 := hb
        obtain rfl := Nat.eq_of_beq_eq_true hr0
        cases h
        exact ⟨rfl, Nat.le_of_ble_eq_true rfl, (r_X1_multipleS v1 v2 M) _ rfl⟩
      · cases h
    · cases h)
def C_X1_begins : Cfg := (t_X1_begin, csS, fl_X1, [(29, 1, 5, 1, 0, fn_X7_bit), (43, 2, 1, 3, 0, fn_X1_multiple), (47, 1, 5, 3, 0, fn_X7_lay3)], in_X1, lg_X1, [], [], none, none, 0)
set_option maxRecDepth 100000 in
theorem b_X1_begins_0 : (fun (v1 : Int32) (v2 : Int32) (M : Mem) => run C_X1_begins 25 (0, [some (.ref 2), some (.int v1), some (.int v2), none], [], M, 0)) = (fun (v1 : Int32) (v2 : Int32) (M : Mem) => some (.inl (43, [some (.ref 2), some (.int v1), some (.int v2), some (.int (0 : Int32))], [], (sL (sL (sI (sI (sI M 2 0 v1) 2 1 v2) 2 2 (v1 * v2)) 2 3 ((d_X7_bit (v1 * v2)) - (1 : Int64))) 2 4 (0 : Int64)), 0))) := by rfl
set_option maxRecDepth 100000 in
theorem b_X1_begins_1 : (fun (v1 : Int32) (v2 : Int32) (a1 : (Int32 × Mem)) => run C_X1_begins 4 (43, [some (.ref 2), some (.int v1), some (.int v2), some (.int a1.1)], [], a1.2, 0)) = (fun (v1 : Int32) (v2 : Int32) (a1 : (Int32 × Mem)) => some (.inl ((br (!decide (a1.1 < (a1.2.1 2 0))) 48 3 (27)), [some (.ref 2), some (.int v1), some (.int v2), some (.int a1.1)], [], a1.2, 0))) := by rfl
set_option maxRecDepth 100000 in
theorem b_X1_begins_2 : (fun (v1 : Int32) (v2 : Int32) (a1 : (Int32 × Mem)) => run C_X1_begins 12 (51, [some (.ref 2), some (.int v1), some (.int v2), some (.int a1.1)], [], a1.2, 0)) = (fun (v1 : Int32) (v2 : Int32) (a1 : (Int32 × Mem)) => some (.inl (43, [some (.ref 2), some (.int v1), some (.int v2), some (.int (a1.1 + (1 : Int32)))], [], (sL a1.2 2 4 ((a1.2.2 2 4) ||| (d_X7_bit ((a1.2.1 2 1) * a1.1)))), 0))) := by rfl
set_option maxHeartbeats 2000000 in
theorem l_X1_begins_1 (v1 : Int32) (v2 : Int32) (M : Mem) : ∀ a1 : Int32 × Mem, RG C_X1_begins ((fun (a1 : Int32 × Mem) => (43, [some (.ref 2), some (.int v1), some (.int v2), some (.int a1.1)], [], a1.2, 0)) a1) (g_X1_begin_1 a1) (lpP (fun (a1 : Int32 × Mem) => (43, [some (.ref 2), some (.int v1), some (.int v2), some (.int a1.1)], [], a1.2, 0)) (fun (a1 : Int32 × Mem) => (75, [some (.ref 2), some (.int v1), some (.int v2), some (.int a1.1)], [], a1.2, 0)) id) := by
  intro a1
  unfold g_X1_begin_1
  show RG C_X1_begins (43, [some (.ref 2), some (.int v1), some (.int v2), some (.int a1.1)], [], a1.2, 0) _ _
  refine RG.st 4 (congrFun (congrFun (congrFun b_X1_begins_1 v1) v2) a1) ?_
  refine RG.ite (fun h1 => RG.brNF (q := 51) h1 rfl ?_) (fun h1 => RG.brNT (q := 75) h1 rfl ?_)
  · refine RG.st 12 (congrFun (congrFun (congrFun b_X1_begins_2 v1) v2) a1) ?_
    exact RG.to rfl (Rto.refl _)
  · exact RG.to rfl (Rto.refl _)
set_option maxRecDepth 100000 in
theorem b_X1_begins_3 : (fun (v1 : Int32) (v2 : Int32) (a2 : (Int32 × Mem)) => run C_X1_begins 5 (75, [some (.ref 2), some (.int v1), some (.int v2), some (.int a2.1)], [], a2.2, 0)) = (fun (v1 : Int32) (v2 : Int32) (a2 : (Int32 × Mem)) => some (.inl (82, [some (.ref 2), some (.int v1), some (.int v2), some (.int (0 : Int32))], [], (sL a2.2 2 5 (0 : Int64)), 0))) := by rfl
set_option maxRecDepth 100000 in
theorem b_X1_begins_4 : (fun (v1 : Int32) (v2 : Int32) (a3 : (Int32 × Mem)) => run C_X1_begins 4 (82, [some (.ref 2), some (.int v1), some (.int v2), some (.int a3.1)], [], a3.2, 0)) = (fun (v1 : Int32) (v2 : Int32) (a3 : (Int32 × Mem)) => some (.inl ((br (!decide (a3.1 < (a3.2.1 2 2))) 87 3 (45)), [some (.ref 2), some (.int v1), some (.int v2), some (.int a3.1)], [], a3.2, 0))) := by rfl
set_option maxRecDepth 100000 in
theorem b_X1_begins_5 : (fun (v1 : Int32) (v2 : Int32) (a3 : (Int32 × Mem)) => run C_X1_begins 13 (90, [some (.ref 2), some (.int v1), some (.int v2), some (.int a3.1)], [], a3.2, 0)) = (fun (v1 : Int32) (v2 : Int32) (a3 : (Int32 × Mem)) => some (.inl ((br (!decide ((d_X1_multiple (2 : Int32) a3.1 ((d_X7_lay 3 36 a3.1 (d_X1_multiple (-1 : Int32) a3.1 a3.2)) a3.2)) = 0)) 110 3 (16)), [some (.ref 2), some (.int v1), some (.int v2), some (.int a3.1)], [], ((d_X7_lay 3 36 a3.1 (d_X1_multiple (-1 : Int32) a3.1 a3.2)) a3.2), 0))) := by rfl
set_option maxRecDepth 100000 in
theorem b_X1_begins_6 : (fun (v1 : Int32) (v2 : Int32) (a3 : (Int32 × Mem)) => run C_X1_begins 7 (113, [some (.ref 2), some (.int v1), some (.int v2), some (.int a3.1)], [], ((d_X7_lay 3 36 a3.1 (d_X1_multiple (-1 : Int32) a3.1 a3.2)) a3.2), 0)) = (fun (v1 : Int32) (v2 : Int32) (a3 : (Int32 × Mem)) => some (.inl (126, [some (.ref 2), some (.int v1), some (.int v2), some (.int a3.1)], [], (sL ((d_X7_lay 3 36 a3.1 (d_X1_multiple (-1 : Int32) a3.1 a3.2)) a3.2) 2 5 ((((d_X7_lay 3 36 a3.1 (d_X1_multiple (-1 : Int32) a3.1 a3.2)) a3.2).2 2 5) ||| (d_X7_bit a3.1))), 0))) := by rfl
theorem m_X1_begins_0 (v1 : Int32) (v2 : Int32) (a3 : (Int32 × Mem)) : Rto C_X1_begins (90, [some (.ref 2), some (.int v1), some (.int v2), some (.int a3.1)], [], a3.2, 0) (126, [some (.ref 2), some (.int v1), some (.int v2), some (.int a3.1)], [], (if (d_X1_multiple (2 : Int32) a3.1 ((d_X7_lay 3 36 a3.1 (d_X1_multiple (-1 : Int32) a3.1 a3.2)) a3.2)) = 0 then (sL ((d_X7_lay 3 36 a3.1 (d_X1_multiple (-1 : Int32) a3.1 a3.2)) a3.2) 2 5 ((((d_X7_lay 3 36 a3.1 (d_X1_multiple (-1 : Int32) a3.1 a3.2)) a3.2).2 2 5) ||| (d_X7_bit a3.1))) else ((d_X7_lay 3 36 a3.1 (d_X1_multiple (-1 : Int32) a3.1 a3.2)) a3.2)), 0) := by
  refine Rto.trans (Rto.run 13 (congrFun (congrFun (congrFun b_X1_begins_5 v1) v2) a3)) ?_
  by_cases h : (d_X1_multiple (2 : Int32) a3.1 ((d_X7_lay 3 36 a3.1 (d_X1_multiple (-1 : Int32) a3.1 a3.2)) a3.2)) = 0
  · refine Rto.trans (Rto.brNF (q := 113) h rfl) ?_
    refine Rto.trans (Rto.run 7 (congrFun (congrFun (congrFun b_X1_begins_6 v1) v2) a3)) ?_
    exact Rto.eq (by first | (simp only [if_pos h]; done) | rfl | exact absurd rfl h | (simp; done))
  · refine Rto.trans (Rto.brNT (q := 126) h rfl) ?_
    exact Rto.eq (by first | (simp only [if_neg h]; done) | rfl | exact absurd rfl h | (simp; done))
set_option maxRecDepth 100000 in
theorem b_X1_begins_7 : (fun (v1 : Int32) (v2 : Int32) (a3 : (Int32 × Mem)) => run C_X1_begins 2 (126, [some (.ref 2), some (.int v1), some (.int v2), some (.int a3.1)], [], (if (d_X1_multiple (2 : Int32) a3.1 ((d_X7_lay 3 36 a3.1 (d_X1_multiple (-1 : Int32) a3.1 a3.2)) a3.2)) = 0 then (sL ((d_X7_lay 3 36 a3.1 (d_X1_multiple (-1 : Int32) a3.1 a3.2)) a3.2) 2 5 ((((d_X7_lay 3 36 a3.1 (d_X1_multiple (-1 : Int32) a3.1 a3.2)) a3.2).2 2 5) ||| (d_X7_bit a3.1))) else ((d_X7_lay 3 36 a3.1 (d_X1_multiple (-1 : Int32) a3.1 a3.2)) a3.2)), 0)) = (fun (v1 : Int32) (v2 : Int32) (a3 : (Int32 × Mem)) => some (.inl (82, [some (.ref 2), some (.int v1), some (.int v2), some (.int (a3.1 + (1 : Int32)))], [], (if (d_X1_multiple (2 : Int32) a3.1 ((d_X7_lay 3 36 a3.1 (d_X1_multiple (-1 : Int32) a3.1 a3.2)) a3.2)) = 0 then (sL ((d_X7_lay 3 36 a3.1 (d_X1_multiple (-1 : Int32) a3.1 a3.2)) a3.2) 2 5 ((((d_X7_lay 3 36 a3.1 (d_X1_multiple (-1 : Int32) a3.1 a3.2)) a3.2).2 2 5) ||| (d_X7_bit a3.1))) else ((d_X7_lay 3 36 a3.1 (d_X1_multiple (-1 : Int32) a3.1 a3.2)) a3.2)), 0))) := by rfl
set_option maxHeartbeats 2000000 in
theorem l_X1_begins_3 (v1 : Int32) (v2 : Int32) (M : Mem) (a2 : (Int32 × Mem)) : ∀ a3 : Int32 × Mem, RG C_X1_begins ((fun (a3 : Int32 × Mem) => (82, [some (.ref 2), some (.int v1), some (.int v2), some (.int a3.1)], [], a3.2, 0)) a3) (g_X1_begin_3 a3) (lpP (fun (a3 : Int32 × Mem) => (82, [some (.ref 2), some (.int v1), some (.int v2), some (.int a3.1)], [], a3.2, 0)) (fun (a3 : Int32 × Mem) => (132, [some (.ref 2), some (.int v1), some (.int v2), some (.int a3.1)], [], a3.2, 0)) id) := by
  intro a3
  unfold g_X1_begin_3
  show RG C_X1_begins (82, [some (.ref 2), some (.int v1), some (.int v2), some (.int a3.1)], [], a3.2, 0) _ _
  refine RG.st 4 (congrFun (congrFun (congrFun b_X1_begins_4 v1) v2) a3) ?_
  refine RG.ite (fun h2 => RG.brNF (q := 90) h2 rfl ?_) (fun h2 => RG.brNT (q := 132) h2 rfl ?_)
  · refine RG.step (m_X1_begins_0 v1 v2 a3) ?_
    refine RG.st 2 (congrFun (congrFun (congrFun b_X1_begins_7 v1) v2) a3) ?_
    exact RG.to rfl (Rto.refl _)
  · exact RG.to rfl (Rto.refl _)
set_option maxRecDepth 100000 in
theorem b_X1_begins_8 : (fun (v1 : Int32) (v2 : Int32) (a4 : (Int32 × Mem)) => run C_X1_begins 1 (132, [some (.ref 2), some (.int v1), some (.int v2), some (.int a4.1)], [], a4.2, 0)) = (fun (v1 : Int32) (v2 : Int32) (a4 : (Int32 × Mem)) => some (.inr (.inl none, a4.2, 0))) := by rfl
set_option maxHeartbeats 2000000 in
theorem r_X1_begins (v1 : Int32) (v2 : Int32) (M : Mem) : RG C_X1_begins (0, [some (.ref 2), some (.int v1), some (.int v2), none], [], M, 0) (d_X1_begin v1 v2 M) (fun r => .inr r) := by
  unfold d_X1_begin
  refine RG.st 25 (congrFun (congrFun (congrFun b_X1_begins_0 v1) v2) M) ?_
  refine RG.loop (hd := (fun (a1 : Int32 × Mem) => (43, [some (.ref 2), some (.int v1), some (.int v2), some (.int a1.1)], [], a1.2, 0))) (ex := (fun (a1 : Int32 × Mem) => (75, [some (.ref 2), some (.int v1), some (.int v2), some (.int a1.1)], [], a1.2, 0))) (rt := id) (l_X1_begins_1 v1 v2 M) (fun a2 => ?_) (fun r v h => by cases h; rfl)
  show RG C_X1_begins (75, [some (.ref 2), some (.int v1), some (.int v2), some (.int a2.1)], [], a2.2, 0) _ _
  refine RG.st 5 (congrFun (congrFun (congrFun b_X1_begins_3 v1) v2) a2) ?_
  refine RG.loop (hd := (fun (a3 : Int32 × Mem) => (82, [some (.ref 2), some (.int v1), some (.int v2), some (.int a3.1)], [], a3.2, 0))) (ex := (fun (a3 : Int32 × Mem) => (132, [some (.ref 2), some (.int v1), some (.int v2), some (.int a3.1)], [], a3.2, 0))) (rt := id) (l_X1_begins_3 v1 v2 M a2) (fun a4 => ?_) (fun r v h => by cases h; rfl)
  show RG C_X1_begins (132, [some (.ref 2), some (.int v1), some (.int v2), some (.int a4.1)], [], a4.2, 0) _ _
  exact RG.fin rfl (Rend.run 1 (congrFun (congrFun (congrFun b_X1_begins_8 v1) v2) a4))
theorem cfg_X1_begins : CfgOK RX1 cX1_begin (C_X1_begins) 3 := ⟨tk_X1_begin, csS_nd, flk_X1, (List.forall_mem_cons.mpr ⟨Or.inr ⟨yX7_bit, cX7_bit, 1, (some .long), none, 1, ok_X7_bits, by decide, by decide, w_code_Sumsetry_bit__I_J, w_initialized_Sumsetry, ⟨by decide, by decide⟩, Or.inr (Or.inl ⟨rfl, rfl, show (parseMethodDescriptor yX7_bit.desc).map (fun d => d.parameters.length) = some 1 from by decide +kernel, ⟨"Sumsetry", by decide +kernel⟩, w_static_Sumsetry_bit__I_J⟩)⟩,
    List.forall_mem_cons.mpr ⟨Or.inr ⟨yX1_multiple, cX1_multiple, 3, (some .int), none, 2, ok_X1_multipleS, by decide, by decide, w_code_Sumsetry_Group_multiple__II_I, w_initialized_Sumsetry_Group, ⟨by decide, by decide⟩, Or.inr (Or.inr ⟨rfl, rfl, show (parseMethodDescriptor yX1_multiple.desc).map (fun d => d.parameters.length + 1) = some 3 from by decide +kernel, w_methodLink_Sumsetry_Group_43, w_instanceMethod_Sumsetry_Group_multiple__II_I, w_selects_Sumsetry_Group_multiple__II_I, ⟨_, rfl, rfl⟩⟩)⟩,
    List.forall_mem_cons.mpr ⟨Or.inr ⟨yX7_lay, cX7_lay, 3, none, none, 1, ok_X7_lays, by decide, by decide, w_code_Sumsetry_lay___III_V, w_initialized_Sumsetry, ⟨by decide, by decide⟩, Or.inr (Or.inl ⟨rfl, rfl, show (parseMethodDescriptor yX7_lay.desc).map (fun d => d.parameters.length) = some 3 from by decide +kernel, ⟨"Sumsetry", by decide +kernel⟩, w_static_Sumsetry_lay___III_V⟩)⟩, fun _ h => absurd h List.not_mem_nil⟩⟩⟩), ink_X1, lgk_X1, fun e h => absurd h List.not_mem_nil, (fun h hh => absurd hh List.not_mem_nil)⟩
theorem ok_X1_begins : OkM csS yX1_begin (Cond.code yX1_begin cX1_begin 4 none) 3 0 fn_X1_begin :=
  OkM_of (own := RX1) (C := C_X1_begins) (by decide +kernel) rfl (cfg_X1_begins) rfl rfl rfl rfl (by
    intro av M o M' h
    unfold fn_X1_begin at h
    split at h
    · rename_i r0 v1 v2
      rcases bif_cs h with ⟨hb, h⟩ | ⟨-, h⟩
      · skip
        have hr0 := hb
        obtain rfl := Nat.eq_of_beq_eq_true hr0
        exact ⟨rfl, Nat.le_of_ble_eq_true rfl, (r_X1_begins v1 v2 M) (o, M') h⟩
      · cases h
    · cases h)
