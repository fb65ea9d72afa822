/-! methods: L_group, L_add, L_set, L_combine, L_move, L_elements, L_ways, L_popular, L_energy, L_energyAnew, L_stabilizer, L_excess, L_slack -/
def fl_L : List (Nat × Nat × Nat) := []
theorem flk_L : ∀ e ∈ fl_L, fldb RL e = true := by decide +kernel
def in_L : List (Nat × Int32) := []
theorem ink_L : ∀ e ∈ in_L, Cond.constant RL e.1 e.2 ∈ TB := by decide +kernel
def lg_L : List (Nat × Int64) := [(132, 4294967295)]
theorem lgk_L : ∀ e ∈ lg_L, Cond.constantLong RL e.1 e.2 ∈ TB := by decide +kernel
def t_L_group : List (Nat × Instr × Nat) := [(0, .aload_n 3, 1), (1, .iconst 0, 1), (2, .aload_n 0, 1), (3, .iload_n 1, 1), (4, .iload_n 2, 1), (5, .invokevirtual 7, 3), (8, .i2l, 1), (9, .lastore, 1), (10, .goto 7, 3), (13, .astore 4, 2), (15, .iconst 1, 1), (16, .ireturn, 1), (17, .iconst 0, 1), (18, .ireturn, 1)]
theorem tk_L_group : ∀ x ∈ t_L_group, decode cL_group x.1 = .ok x.2 := by decide +kernel
def C_L_group : Cfg := (t_L_group, csF, fl_L, [(7, 2, 5, 3, 1, fn_X7_group)], in_L, lg_L, [], [(0, 10, 13, 13, "java/lang/IllegalArgumentException")], none, (some .int), 1)
set_option maxRecDepth 100000 in
theorem b_L_group_0 : (fun (v1 : Int32) (v2 : Int32) (M : Mem) => run C_L_group 5 (0, [some (.ref 0), some (.int v1), some (.int v2), some (.ref 29), none], [], M, 0)) = (fun (v1 : Int32) (v2 : Int32) (M : Mem) => some (.inl (5, [some (.ref 0), some (.int v1), some (.int v2), some (.ref 29), none], [.int v2, .int v1, .ref 0, .int (0 : Int32), .ref 29], M, 0))) := by rfl
set_option maxRecDepth 100000 in
theorem b_L_group_1 : (fun (v1 : Int32) (v2 : Int32) (w2 : Int32) (M1 : Mem) => run C_L_group 1 (8, [some (.ref 0), some (.int v1), some (.int v2), some (.ref 29), none], [.int w2, .int (0 : Int32), .ref 29], M1, 1)) = (fun (v1 : Int32) (v2 : Int32) (w2 : Int32) (M1 : Mem) => some (.inl (9, [some (.ref 0), some (.int v1), some (.int v2), some (.ref 29), none], [.long w2.toInt64, .int (0 : Int32), .ref 29], M1, 1))) := by rfl
set_option maxRecDepth 100000 in
theorem b_L_group_2 : (fun (v1 : Int32) (v2 : Int32) (w2 : Int32) (M1 : Mem) => stp C_L_group (9, [some (.ref 0), some (.int v1), some (.int v2), some (.ref 29), none], [.long w2.toInt64, .int (0 : Int32), .ref 29], M1, 1)) = (fun (v1 : Int32) (v2 : Int32) (w2 : Int32) (M1 : Mem) => (if inb (0 : Int32) 1 = true then some (.inl (10, [some (.ref 0), some (.int v1), some (.int v2), some (.ref 29), none], [], (sL M1 29 (ix (0 : Int32)) w2.toInt64), 1)) else none)) := by rfl
set_option maxRecDepth 100000 in
theorem b_L_group_3 : (fun (v1 : Int32) (v2 : Int32) (w2 : Int32) (M1 : Mem) => run C_L_group 3 (10, [some (.ref 0), some (.int v1), some (.int v2), some (.ref 29), none], [], (sL M1 29 (ix (0 : Int32)) w2.toInt64), 1)) = (fun (v1 : Int32) (v2 : Int32) (w2 : Int32) (M1 : Mem) => some (.inr (.inl (some (.int (0 : Int32))), (sL M1 29 (ix (0 : Int32)) w2.toInt64), 1))) := by rfl
def d_L_group (v1 : Int32) (v2 : Int32) (M : Mem) : Option (Res × Mem) := (onI (d_X7_group v1 v2 M) (fun w2 M1 => (if inb (0 : Int32) 1 = true then some (.inl (some (.int (0 : Int32))), (sL M1 29 (ix (0 : Int32)) w2.toInt64)) else none)) (fun r => match r.1 with | .inr E => if E = "java/lang/IllegalArgumentException" then some (.inl (some (.int (1 : Int32))), r.2) else none | _ => none))
set_option maxHeartbeats 2000000 in
theorem r_L_group (v1 : Int32) (v2 : Int32) (M : Mem) : RG C_L_group (0, [some (.ref 0), some (.int v1), some (.int v2), some (.ref 29), none], [], M, 0) (d_L_group v1 v2 M) (fun r => .inr r) := by
  unfold d_L_group
  refine RG.st 5 (congrFun (congrFun (congrFun b_L_group_0 v1) v2) M) ?_
  refine RG.callI (fun w2 M1 h1 => RG.st 1 (run_callV (v := (some (.int w2))) rfl rfl rfl rfl rfl h1) ?_) (fun E M1 h1 => ?_)
  rotate_left
  · dsimp only
    refine RG.ite (fun h4 => RG.fin rfl (Rend.run 1 (run_callVh (r := (1 : Int32)) rfl rfl rfl rfl rfl h1 rfl (by rw [h4]; rfl)))) (fun h4 => ?_)
    exact RG.none
  · show RG C_L_group (8, [some (.ref 0), some (.int v1), some (.int v2), some (.ref 29), none], [.int w2, .int (0 : Int32), .ref 29], M1, 1) _ _
    refine RG.st 1 (congrFun (congrFun (congrFun (congrFun b_L_group_1 v1) v2) w2) M1) ?_
    refine RG.guard (fun h2 => RG.st 1 (stp_g h2 (congrFun (congrFun (congrFun (congrFun b_L_group_2 v1) v2) w2) M1)) ?_)
    exact RG.fin rfl (Rend.run 3 (congrFun (congrFun (congrFun (congrFun b_L_group_3 v1) v2) w2) M1))
def fn_L_group : Fn := fun av M => match av with
  | [.ref r0, .int v1, .int v2, .ref r3] => bif Nat.beq r0 0 && Nat.beq r3 29 then (d_L_group v1 v2 M) else (none)
  | _ => none
theorem cfg_L_group : CfgOK RL cL_group (C_L_group) 7 := ⟨tk_L_group, csF_nd, flk_L, (List.forall_mem_cons.mpr ⟨Or.inr ⟨yX7_group, cX7_group, 3, (some .int), none, 6, ok_X7_group, by decide, by decide, w_code_Sumsetry_group__II_I, w_initialized_Sumsetry, ⟨by decide, by decide⟩, Or.inr (Or.inr ⟨rfl, rfl, show (parseMethodDescriptor yX7_group.desc).map (fun d => d.parameters.length + 1) = some 3 from by decide +kernel, w_methodLink_SumsetryLaw_7, w_instanceMethod_Sumsetry_group__II_I, w_selects_Sumsetry_group__II_I, ⟨_, rfl, rfl⟩⟩)⟩, fun _ h => absurd h List.not_mem_nil⟩), ink_L, lgk_L, fun e h => absurd h List.not_mem_nil, (List.forall_mem_cons.mpr ⟨⟨by decide, w_classLink_SumsetryLaw_13, by decide⟩, fun _ h => absurd h List.not_mem_nil⟩)⟩
theorem ok_L_group : OkM csF yL_group (Cond.codeWith yL_group cL_group 5 (some .int) [(0, 10, 13, 13)]) 7 1 fn_L_group :=
  OkM_ofH (own := RL) (C := C_L_group) (hh := [(0, 10, 13, 13)]) (by decide +kernel) rfl (cfg_L_group) rfl rfl rfl rfl (by
    intro av M o M' h
    unfold fn_L_group at h
    split at h
    · rename_i r0 v1 v2 r3
      rcases bif_cs h with ⟨hb, h⟩ | ⟨-, h⟩
      · simp only [Bool.and_eq_true] at hb
        obtain ⟨hr0, hr1⟩ := hb
        obtain rfl := Nat.eq_of_beq_eq_true hr0
        obtain rfl := Nat.eq_of_beq_eq_true hr1
        exact ⟨rfl, Nat.le_of_ble_eq_true rfl, (r_L_group v1 v2 M) (o, M') h⟩
      · cases h
    · cases h)
def t_L_add : List (Nat × Instr × Nat) := [(0, .aload 4, 2), (2, .iconst 0, 1), (3, .aload_n 0, 1), (4, .iload_n 1, 1), (5, .iload_n 2, 1), (6, .iload_n 3, 1), (7, .invokevirtual 15, 3), (10, .i2l, 1), (11, .lastore, 1), (12, .goto 7, 3), (15, .astore 5, 2), (17, .iconst 1, 1), (18, .ireturn, 1), (19, .iconst 0, 1), (20, .ireturn, 1)]
theorem tk_L_add : ∀ x ∈ t_L_add, decode cL_add x.1 = .ok x.2 := by decide +kernel
def C_L_add : Cfg := (t_L_add, csF, fl_L, [(15, 2, 5, 4, 2, fn_X7_add)], in_L, lg_L, [], [(0, 12, 15, 19, "java/lang/IndexOutOfBoundsException")], none, (some .int), 2)
set_option maxRecDepth 100000 in
theorem b_L_add_0 : (fun (v1 : Int32) (v2 : Int32) (v3 : Int32) (M : Mem) => run C_L_add 6 (0, [some (.ref 0), some (.int v1), some (.int v2), some (.int v3), some (.ref 29), none], [], M, 0)) = (fun (v1 : Int32) (v2 : Int32) (v3 : Int32) (M : Mem) => some (.inl (7, [some (.ref 0), some (.int v1), some (.int v2), some (.int v3), some (.ref 29), none], [.int v3, .int v2, .int v1, .ref 0, .int (0 : Int32), .ref 29], M, 0))) := by rfl
set_option maxRecDepth 100000 in
theorem b_L_add_1 : (fun (v1 : Int32) (v2 : Int32) (v3 : Int32) (w2 : Int32) (M1 : Mem) => run C_L_add 1 (10, [some (.ref 0), some (.int v1), some (.int v2), some (.int v3), some (.ref 29), none], [.int w2, .int (0 : Int32), .ref 29], M1, 2)) = (fun (v1 : Int32) (v2 : Int32) (v3 : Int32) (w2 : Int32) (M1 : Mem) => some (.inl (11, [some (.ref 0), some (.int v1), some (.int v2), some (.int v3), some (.ref 29), none], [.long w2.toInt64, .int (0 : Int32), .ref 29], M1, 2))) := by rfl
set_option maxRecDepth 100000 in
theorem b_L_add_2 : (fun (v1 : Int32) (v2 : Int32) (v3 : Int32) (w2 : Int32) (M1 : Mem) => stp C_L_add (11, [some (.ref 0), some (.int v1), some (.int v2), some (.int v3), some (.ref 29), none], [.long w2.toInt64, .int (0 : Int32), .ref 29], M1, 2)) = (fun (v1 : Int32) (v2 : Int32) (v3 : Int32) (w2 : Int32) (M1 : Mem) => (if inb (0 : Int32) 1 = true then some (.inl (12, [some (.ref 0), some (.int v1), some (.int v2), some (.int v3), some (.ref 29), none], [], (sL M1 29 (ix (0 : Int32)) w2.toInt64), 2)) else none)) := by rfl
set_option maxRecDepth 100000 in
theorem b_L_add_3 : (fun (v1 : Int32) (v2 : Int32) (v3 : Int32) (w2 : Int32) (M1 : Mem) => run C_L_add 3 (12, [some (.ref 0), some (.int v1), some (.int v2), some (.int v3), some (.ref 29), none], [], (sL M1 29 (ix (0 : Int32)) w2.toInt64), 2)) = (fun (v1 : Int32) (v2 : Int32) (v3 : Int32) (w2 : Int32) (M1 : Mem) => some (.inr (.inl (some (.int (0 : Int32))), (sL M1 29 (ix (0 : Int32)) w2.toInt64), 2))) := by rfl
def d_L_add (v1 : Int32) (v2 : Int32) (v3 : Int32) (M : Mem) : Option (Res × Mem) := (onI (d_X7_add v1 v2 v3 M) (fun w2 M1 => (if inb (0 : Int32) 1 = true then some (.inl (some (.int (0 : Int32))), (sL M1 29 (ix (0 : Int32)) w2.toInt64)) else none)) (fun r => match r.1 with | .inr E => if E = "java/lang/IndexOutOfBoundsException" then some (.inl (some (.int (1 : Int32))), r.2) else none | _ => none))
set_option maxHeartbeats 2000000 in
theorem r_L_add (v1 : Int32) (v2 : Int32) (v3 : Int32) (M : Mem) : RG C_L_add (0, [some (.ref 0), some (.int v1), some (.int v2), some (.int v3), some (.ref 29), none], [], M, 0) (d_L_add v1 v2 v3 M) (fun r => .inr r) := by
  unfold d_L_add
  refine RG.st 6 (congrFun (congrFun (congrFun (congrFun b_L_add_0 v1) v2) v3) M) ?_
  refine RG.callI (fun w2 M1 h1 => RG.st 1 (run_callV (v := (some (.int w2))) rfl rfl rfl rfl rfl h1) ?_) (fun E M1 h1 => ?_)
  rotate_left
  · dsimp only
    refine RG.ite (fun h4 => RG.fin rfl (Rend.run 1 (run_callVh (r := (1 : Int32)) rfl rfl rfl rfl rfl h1 rfl (by rw [h4]; rfl)))) (fun h4 => ?_)
    exact RG.none
  · show RG C_L_add (10, [some (.ref 0), some (.int v1), some (.int v2), some (.int v3), some (.ref 29), none], [.int w2, .int (0 : Int32), .ref 29], M1, 2) _ _
    refine RG.st 1 (congrFun (congrFun (congrFun (congrFun (congrFun b_L_add_1 v1) v2) v3) w2) M1) ?_
    refine RG.guard (fun h2 => RG.st 1 (stp_g h2 (congrFun (congrFun (congrFun (congrFun (congrFun b_L_add_2 v1) v2) v3) w2) M1)) ?_)
    exact RG.fin rfl (Rend.run 3 (congrFun (congrFun (congrFun (congrFun (congrFun b_L_add_3 v1) v2) v3) w2) M1))
def fn_L_add : Fn := fun av M => match av with
  | [.ref r0, .int v1, .int v2, .int v3, .ref r4] => bif Nat.beq r0 0 && Nat.beq r4 29 then (d_L_add v1 v2 v3 M) else (none)
  | _ => none
theorem cfg_L_add : CfgOK RL cL_add (C_L_add) 8 := ⟨tk_L_add, csF_nd, flk_L, (List.forall_mem_cons.mpr ⟨Or.inr ⟨yX7_add, cX7_add, 4, (some .int), none, 7, ok_X7_add, by decide, by decide, w_code_Sumsetry_add__IIZ_I, w_initialized_Sumsetry, ⟨by decide, by decide⟩, Or.inr (Or.inr ⟨rfl, rfl, show (parseMethodDescriptor yX7_add.desc).map (fun d => d.parameters.length + 1) = some 4 from by decide +kernel, w_methodLink_SumsetryLaw_15, w_instanceMethod_Sumsetry_add__IIZ_I, w_selects_Sumsetry_add__IIZ_I, ⟨_, rfl, rfl⟩⟩)⟩, fun _ h => absurd h List.not_mem_nil⟩), ink_L, lgk_L, fun e h => absurd h List.not_mem_nil, (List.forall_mem_cons.mpr ⟨⟨by decide, w_classLink_SumsetryLaw_19, by decide⟩, fun _ h => absurd h List.not_mem_nil⟩)⟩
theorem ok_L_add : OkM csF yL_add (Cond.codeWith yL_add cL_add 6 (some .int) [(0, 12, 15, 19)]) 8 2 fn_L_add :=
  OkM_ofH (own := RL) (C := C_L_add) (hh := [(0, 12, 15, 19)]) (by decide +kernel) rfl (cfg_L_add) rfl rfl rfl rfl (by
    intro av M o M' h
    unfold fn_L_add at h
    split at h
    · rename_i r0 v1 v2 v3 r4
      rcases bif_cs h with ⟨hb, h⟩ | ⟨-, h⟩
      · simp only [Bool.and_eq_true] at hb
        obtain ⟨hr0, hr1⟩ := hb
        obtain rfl := Nat.eq_of_beq_eq_true hr0
        obtain rfl := Nat.eq_of_beq_eq_true hr1
        exact ⟨rfl, Nat.le_of_ble_eq_true rfl, (r_L_add v1 v2 v3 M) (o, M') h⟩
      · cases h
    · cases h)
def t_L_set : List (Nat × Instr × Nat) := [(0, .aload_n 3, 1), (1, .iconst 0, 1), (2, .aload_n 0, 1), (3, .lload_n 1, 1), (4, .invokevirtual 21, 3), (7, .i2l, 1), (8, .lastore, 1), (9, .goto 11, 3), (12, .astore 4, 2), (14, .iconst 1, 1), (15, .ireturn, 1), (16, .astore 4, 2), (18, .iconst 2, 1), (19, .ireturn, 1), (20, .iconst 0, 1), (21, .ireturn, 1)]
theorem tk_L_set : ∀ x ∈ t_L_set, decode cL_set x.1 = .ok x.2 := by decide +kernel
def C_L_set : Cfg := (t_L_set, csF, fl_L, [(21, 2, 5, 2, 1, fn_X7_set)], in_L, lg_L, [], [(0, 9, 12, 13, "java/lang/IllegalArgumentException"), (0, 9, 16, 25, "java/lang/IllegalStateException")], none, (some .int), 1)
set_option maxRecDepth 100000 in
theorem b_L_set_0 : (fun (v1 : Int64) (M : Mem) => run C_L_set 4 (0, [some (.ref 0), some (.long v1), none, some (.ref 29), none], [], M, 0)) = (fun (v1 : Int64) (M : Mem) => some (.inl (4, [some (.ref 0), some (.long v1), none, some (.ref 29), none], [.long v1, .ref 0, .int (0 : Int32), .ref 29], M, 0))) := by rfl
set_option maxRecDepth 100000 in
theorem b_L_set_1 : (fun (v1 : Int64) (w2 : Int32) (M1 : Mem) => run C_L_set 1 (7, [some (.ref 0), some (.long v1), none, some (.ref 29), none], [.int w2, .int (0 : Int32), .ref 29], M1, 1)) = (fun (v1 : Int64) (w2 : Int32) (M1 : Mem) => some (.inl (8, [some (.ref 0), some (.long v1), none, some (.ref 29), none], [.long w2.toInt64, .int (0 : Int32), .ref 29], M1, 1))) := by rfl
set_option maxRecDepth 100000 in
theorem b_L_set_2 : (fun (v1 : Int64) (w2 : Int32) (M1 : Mem) => stp C_L_set (8, [some (.ref 0), some (.long v1), none, some (.ref 29), none], [.long w2.toInt64, .int (0 : Int32), .ref 29], M1, 1)) = (fun (v1 : Int64) (w2 : Int32) (M1 : Mem) => (if inb (0 : Int32) 1 = true then some (.inl (9, [some (.ref 0), some (.long v1), none, some (.ref 29), none], [], (sL M1 29 (ix (0 : Int32)) w2.toInt64), 1)) else none)) := by rfl
set_option maxRecDepth 100000 in
theorem b_L_set_3 : (fun (v1 : Int64) (w2 : Int32) (M1 : Mem) => run C_L_set 3 (9, [some (.ref 0), some (.long v1), none, some (.ref 29), none], [], (sL M1 29 (ix (0 : Int32)) w2.toInt64), 1)) = (fun (v1 : Int64) (w2 : Int32) (M1 : Mem) => some (.inr (.inl (some (.int (0 : Int32))), (sL M1 29 (ix (0 : Int32)) w2.toInt64), 1))) := by rfl
def d_L_set (v1 : Int64) (M : Mem) : Option (Res × Mem) := (onI (d_X7_set v1 M) (fun w2 M1 => (if inb (0 : Int32) 1 = true then some (.inl (some (.int (0 : Int32))), (sL M1 29 (ix (0 : Int32)) w2.toInt64)) else none)) (fun r => match r.1 with | .inr E => if E = "java/lang/IllegalArgumentException" then some (.inl (some (.int (1 : Int32))), r.2) else if E = "java/lang/IllegalStateException" then some (.inl (some (.int (2 : Int32))), r.2) else none | _ => none))
set_option maxHeartbeats 2000000 in
theorem r_L_set (v1 : Int64) (M : Mem) : RG C_L_set (0, [some (.ref 0), some (.long v1), none, some (.ref 29), none], [], M, 0) (d_L_set v1 M) (fun r => .inr r) := by
  unfold d_L_set
  refine RG.st 4 (congrFun (congrFun b_L_set_0 v1) M) ?_
  refine RG.callI (fun w2 M1 h1 => RG.st 1 (run_callV (v := (some (.int w2))) rfl rfl rfl rfl rfl h1) ?_) (fun E M1 h1 => ?_)
  rotate_left
  · dsimp only
    refine RG.ite (fun h4 => RG.fin rfl (Rend.run 1 (run_callVh (r := (1 : Int32)) rfl rfl rfl rfl rfl h1 rfl (by rw [h4]; rfl)))) (fun h4 => ?_)
    refine RG.ite (fun h5 => RG.fin rfl (Rend.run 1 (run_callVh (r := (2 : Int32)) rfl rfl rfl rfl rfl h1 rfl (by rw [h5]; rfl)))) (fun h5 => ?_)
    exact RG.none
  · show RG C_L_set (7, [some (.ref 0), some (.long v1), none, some (.ref 29), none], [.int w2, .int (0 : Int32), .ref 29], M1, 1) _ _
    refine RG.st 1 (congrFun (congrFun (congrFun b_L_set_1 v1) w2) M1) ?_
    refine RG.guard (fun h2 => RG.st 1 (stp_g h2 (congrFun (congrFun (congrFun b_L_set_2 v1) w2) M1)) ?_)
    exact RG.fin rfl (Rend.run 3 (congrFun (congrFun (congrFun b_L_set_3 v1) w2) M1))
def fn_L_set : Fn := fun av M => match av with
  | [.ref r0, .long v1, .ref r3] => bif Nat.beq r0 0 && Nat.beq r3 29 then (d_L_set v1 M) else (none)
  | _ => none
theorem cfg_L_set : CfgOK RL cL_set (C_L_set) 8 := ⟨tk_L_set, csF_nd, flk_L, (List.forall_mem_cons.mpr ⟨Or.inr ⟨yX7_set, cX7_set, 3, (some .int), none, 7, ok_X7_set, by decide, by decide, w_code_Sumsetry_set__J_I, w_initialized_Sumsetry, ⟨by decide, by decide⟩, Or.inr (Or.inr ⟨rfl, rfl, show (parseMethodDescriptor yX7_set.desc).map (fun d => d.parameters.length + 1) = some 2 from by decide +kernel, w_methodLink_SumsetryLaw_21, w_instanceMethod_Sumsetry_set__J_I, w_selects_Sumsetry_set__J_I, ⟨_, rfl, rfl⟩⟩)⟩, fun _ h => absurd h List.not_mem_nil⟩), ink_L, lgk_L, fun e h => absurd h List.not_mem_nil, (List.forall_mem_cons.mpr ⟨⟨by decide, w_classLink_SumsetryLaw_13, by decide⟩, List.forall_mem_cons.mpr ⟨⟨by decide, w_classLink_SumsetryLaw_25, by decide⟩, fun _ h => absurd h List.not_mem_nil⟩⟩)⟩
theorem ok_L_set : OkM csF yL_set (Cond.codeWith yL_set cL_set 5 (some .int) [(0, 9, 12, 13), (0, 9, 16, 25)]) 8 1 fn_L_set :=
  OkM_ofH (own := RL) (C := C_L_set) (hh := [(0, 9, 12, 13), (0, 9, 16, 25)]) (by decide +kernel) rfl (cfg_L_set) rfl rfl rfl rfl (by
    intro av M o M' h
    unfold fn_L_set at h
    split at h
    · rename_i r0 v1 r3
      rcases bif_cs h with ⟨hb, h⟩ | ⟨-, h⟩
      · simp only [Bool.and_eq_true] at hb
        obtain ⟨hr0, hr1⟩ := hb
        obtain rfl := Nat.eq_of_beq_eq_true hr0
        obtain rfl := Nat.eq_of_beq_eq_true hr1
        exact ⟨rfl, Nat.le_of_ble_eq_true rfl, (r_L_set v1 M) (o, M') h⟩
      · cases h
    · cases h)
def t_L_combine : List (Nat × Instr × Nat) := [(0, .aload 4, 2), (2, .iconst 0, 1), (3, .aload_n 0, 1), (4, .iload_n 1, 1), (5, .iload_n 2, 1), (6, .iload_n 3, 1), (7, .invokevirtual 27, 3), (10, .i2l, 1), (11, .lastore, 1), (12, .goto 15, 3), (15, .astore 5, 2), (17, .iconst 1, 1), (18, .ireturn, 1), (19, .astore 5, 2), (21, .iconst 2, 1), (22, .ireturn, 1), (23, .astore 5, 2), (25, .iconst 3, 1), (26, .ireturn, 1), (27, .iconst 0, 1), (28, .ireturn, 1)]
theorem tk_L_combine : ∀ x ∈ t_L_combine, decode cL_combine x.1 = .ok x.2 := by decide +kernel
def C_L_combine : Cfg := (t_L_combine, csF, fl_L, [(27, 2, 5, 4, 3, fn_X7_combine)], in_L, lg_L, [], [(0, 12, 15, 19, "java/lang/IndexOutOfBoundsException"), (0, 12, 19, 13, "java/lang/IllegalArgumentException"), (0, 12, 23, 25, "java/lang/IllegalStateException")], none, (some .int), 3)
set_option maxRecDepth 100000 in
theorem b_L_combine_0 : (fun (v1 : Int32) (v2 : Int32) (v3 : Int32) (M : Mem) => run C_L_combine 6 (0, [some (.ref 0), some (.int v1), some (.int v2), some (.int v3), some (.ref 29), none], [], M, 0)) = (fun (v1 : Int32) (v2 : Int32) (v3 : Int32) (M : Mem) => some (.inl (7, [some (.ref 0), some (.int v1), some (.int v2), some (.int v3), some (.ref 29), none], [.int v3, .int v2, .int v1, .ref 0, .int (0 : Int32), .ref 29], M, 0))) := by rfl
set_option maxRecDepth 100000 in
theorem b_L_combine_1 : (fun (v1 : Int32) (v2 : Int32) (v3 : Int32) (w2 : Int32) (M1 : Mem) => run C_L_combine 1 (10, [some (.ref 0), some (.int v1), some (.int v2), some (.int v3), some (.ref 29), none], [.int w2, .int (0 : Int32), .ref 29], M1, 3)) = (fun (v1 : Int32) (v2 : Int32) (v3 : Int32) (w2 : Int32) (M1 : Mem) => some (.inl (11, [some (.ref 0), some (.int v1), some (.int v2), some (.int v3), some (.ref 29), none], [.long w2.toInt64, .int (0 : Int32), .ref 29], M1, 3))) := by rfl
set_option maxRecDepth 100000 in
theorem b_L_combine_2 : (fun (v1 : Int32) (v2 : Int32) (v3 : Int32) (w2 : Int32) (M1 : Mem) => stp C_L_combine (11, [some (.ref 0), some (.int v1), some (.int v2), some (.int v3), some (.ref 29), none], [.long w2.toInt64, .int (0 : Int32), .ref 29], M1, 3)) = (fun (v1 : Int32) (v2 : Int32) (v3 : Int32) (w2 : Int32) (M1 : Mem) => (if inb (0 : Int32) 1 = true then some (.inl (12, [some (.ref 0), some (.int v1), some (.int v2), some (.int v3), some (.ref 29), none], [], (sL M1 29 (ix (0 : Int32)) w2.toInt64), 3)) else none)) := by rfl
set_option maxRecDepth 100000 in
theorem b_L_combine_3 : (fun (v1 : Int32) (v2 : Int32) (v3 : Int32) (w2 : Int32) (M1 : Mem) => run C_L_combine 3 (12, [some (.ref 0), some (.int v1), some (.int v2), some (.int v3), some (.ref 29), none], [], (sL M1 29 (ix (0 : Int32)) w2.toInt64), 3)) = (fun (v1 : Int32) (v2 : Int32) (v3 : Int32) (w2 : Int32) (M1 : Mem) => some (.inr (.inl (some (.int (0 : Int32))), (sL M1 29 (ix (0 : Int32)) w2.toInt64), 3))) := by rfl
def d_L_combine (v1 : Int32) (v2 : Int32) (v3 : Int32) (M : Mem) : Option (Res × Mem) := (onI (d_X7_combine v1 v2 v3 M) (fun w2 M1 => (if inb (0 : Int32) 1 = true then some (.inl (some (.int (0 : Int32))), (sL M1 29 (ix (0 : Int32)) w2.toInt64)) else none)) (fun r => match r.1 with | .inr E => if E = "java/lang/IndexOutOfBoundsException" then some (.inl (some (.int (1 : Int32))), r.2) else if E = "java/lang/IllegalArgumentException" then some (.inl (some (.int (2 : Int32))), r.2) else if E = "java/lang/IllegalStateException" then some (.inl (some (.int (3 : Int32))), r.2) else none | _ => none))
set_option maxHeartbeats 2000000 in
theorem r_L_combine (v1 : Int32) (v2 : Int32) (v3 : Int32) (M : Mem) : RG C_L_combine (0, [some (.ref 0), some (.int v1), some (.int v2), some (.int v3), some (.ref 29), none], [], M, 0) (d_L_combine v1 v2 v3 M) (fun r => .inr r) := by
  unfold d_L_combine
  refine RG.st 6 (congrFun (congrFun (congrFun (congrFun b_L_combine_0 v1) v2) v3) M) ?_
  refine RG.callI (fun w2 M1 h1 => RG.st 1 (run_callV (v := (some (.int w2))) rfl rfl rfl rfl rfl h1) ?_) (fun E M1 h1 => ?_)
  rotate_left
  · dsimp only
    refine RG.ite (fun h4 => RG.fin rfl (Rend.run 1 (run_callVh (r := (1 : Int32)) rfl rfl rfl rfl rfl h1 rfl (by rw [h4]; rfl)))) (fun h4 => ?_)
    refine RG.ite (fun h5 => RG.fin rfl (Rend.run 1 (run_callVh (r := (2 : Int32)) rfl rfl rfl rfl rfl h1 rfl (by rw [h5]; rfl)))) (fun h5 => ?_)
    refine RG.ite (fun h6 => RG.fin rfl (Rend.run 1 (run_callVh (r := (3 : Int32)) rfl rfl rfl rfl rfl h1 rfl (by rw [h6]; rfl)))) (fun h6 => ?_)
    exact RG.none
  · show RG C_L_combine (10, [some (.ref 0), some (.int v1), some (.int v2), some (.int v3), some (.ref 29), none], [.int w2, .int (0 : Int32), .ref 29], M1, 3) _ _
    refine RG.st 1 (congrFun (congrFun (congrFun (congrFun (congrFun b_L_combine_1 v1) v2) v3) w2) M1) ?_
    refine RG.guard (fun h2 => RG.st 1 (stp_g h2 (congrFun (congrFun (congrFun (congrFun (congrFun b_L_combine_2 v1) v2) v3) w2) M1)) ?_)
    exact RG.fin rfl (Rend.run 3 (congrFun (congrFun (congrFun (congrFun (congrFun b_L_combine_3 v1) v2) v3) w2) M1))
def fn_L_combine : Fn := fun av M => match av with
  | [.ref r0, .int v1, .int v2, .int v3, .ref r4] => bif Nat.beq r0 0 && Nat.beq r4 29 then (d_L_combine v1 v2 v3 M) else (none)
  | _ => none
theorem cfg_L_combine : CfgOK RL cL_combine (C_L_combine) 8 := ⟨tk_L_combine, csF_nd, flk_L, (List.forall_mem_cons.mpr ⟨Or.inr ⟨yX7_combine, cX7_combine, 4, (some .int), none, 7, ok_X7_combine, by decide, by decide, w_code_Sumsetry_combine__III_I, w_initialized_Sumsetry, ⟨by decide, by decide⟩, Or.inr (Or.inr ⟨rfl, rfl, show (parseMethodDescriptor yX7_combine.desc).map (fun d => d.parameters.length + 1) = some 4 from by decide +kernel, w_methodLink_SumsetryLaw_27, w_instanceMethod_Sumsetry_combine__III_I, w_selects_Sumsetry_combine__III_I, ⟨_, rfl, rfl⟩⟩)⟩, fun _ h => absurd h List.not_mem_nil⟩), ink_L, lgk_L, fun e h => absurd h List.not_mem_nil, (List.forall_mem_cons.mpr ⟨⟨by decide, w_classLink_SumsetryLaw_19, by decide⟩, List.forall_mem_cons.mpr ⟨⟨by decide, w_classLink_SumsetryLaw_13, by decide⟩, List.forall_mem_cons.mpr ⟨⟨by decide, w_classLink_SumsetryLaw_25, by decide⟩, fun _ h => absurd h List.not_mem_nil⟩⟩⟩)⟩
theorem ok_L_combine : OkM csF yL_combine (Cond.codeWith yL_combine cL_combine 6 (some .int) [(0, 12, 15, 19), (0, 12, 19, 13), (0, 12, 23, 25)]) 8 3 fn_L_combine :=
  OkM_ofH (own := RL) (C := C_L_combine) (hh := [(0, 12, 15, 19), (0, 12, 19, 13), (0, 12, 23, 25)]) (by decide +kernel) rfl (cfg_L_combine) rfl rfl rfl rfl (by
    intro av M o M' h
    unfold fn_L_combine at h
    split at h
    · rename_i r0 v1 v2 v3 r4
      rcases bif_cs h with ⟨hb, h⟩ | ⟨-, h⟩
      · simp only [Bool.and_eq_true] at hb
        obtain ⟨hr0, hr1⟩ := hb
        obtain rfl := Nat.eq_of_beq_eq_true hr0
        obtain rfl := Nat.eq_of_beq_eq_true hr1
        exact ⟨rfl, Nat.le_of_ble_eq_true rfl, (r_L_combine v1 v2 v3 M) (o, M') h⟩
      · cases h
    · cases h)
def t_L_move : List (Nat × Instr × Nat) := [(0, .aload 4, 2), (2, .iconst 0, 1), (3, .aload_n 0, 1), (4, .iload_n 1, 1), (5, .iload_n 2, 1), (6, .iload_n 3, 1), (7, .invokevirtual 31, 3), (10, .i2l, 1), (11, .lastore, 1), (12, .goto 15, 3), (15, .astore 5, 2), (17, .iconst 1, 1), (18, .ireturn, 1), (19, .astore 5, 2), (21, .iconst 2, 1), (22, .ireturn, 1), (23, .astore 5, 2), (25, .iconst 3, 1), (26, .ireturn, 1), (27, .iconst 0, 1), (28, .ireturn, 1)]
theorem tk_L_move : ∀ x ∈ t_L_move, decode cL_move x.1 = .ok x.2 := by decide +kernel
def C_L_move : Cfg := (t_L_move, csF, fl_L, [(31, 2, 5, 4, 3, fn_X7_move)], in_L, lg_L, [], [(0, 12, 15, 19, "java/lang/IndexOutOfBoundsException"), (0, 12, 19, 13, "java/lang/IllegalArgumentException"), (0, 12, 23, 25, "java/lang/IllegalStateException")], none, (some .int), 3)
set_option maxRecDepth 100000 in
theorem b_L_move_0 : (fun (v1 : Int32) (v2 : Int32) (v3 : Int32) (M : Mem) => run C_L_move 6 (0, [some (.ref 0), some (.int v1), some (.int v2), some (.int v3), some (.ref 29), none], [], M, 0)) = (fun (v1 : Int32) (v2 : Int32) (v3 : Int32) (M : Mem) => some (.inl (7, [some (.ref 0), some (.int v1), some (.int v2), some (.int v3), some (.ref 29), none], [.int v3, .int v2, .int v1, .ref 0, .int (0 : Int32), .ref 29], M, 0))) := by rfl
set_option maxRecDepth 100000 in
theorem b_L_move_1 : (fun (v1 : Int32) (v2 : Int32) (v3 : Int32) (w2 : Int32) (M1 : Mem) => run C_L_move 1 (10, [some (.ref 0), some (.int v1), some (.int v2), some (.int v3), some (.ref 29), none], [.int w2, .int (0 : Int32), .ref 29], M1, 3)) = (fun (v1 : Int32) (v2 : Int32) (v3 : Int32) (w2 : Int32) (M1 : Mem) => some (.inl (11, [some (.ref 0), some (.int v1), some (.int v2), some (.int v3), some (.ref 29), none], [.long w2.toInt64, .int (0 : Int32), .ref 29], M1, 3))) := by rfl
set_option maxRecDepth 100000 in
theorem b_L_move_2 : (fun (v1 : Int32) (v2 : Int32) (v3 : Int32) (w2 : Int32) (M1 : Mem) => stp C_L_move (11, [some (.ref 0), some (.int v1), some (.int v2), some (.int v3), some (.ref 29), none], [.long w2.toInt64, .int (0 : Int32), .ref 29], M1, 3)) = (fun (v1 : Int32) (v2 : Int32) (v3 : Int32) (w2 : Int32) (M1 : Mem) => (if inb (0 : Int32) 1 = true then some (.inl (12, [some (.ref 0), some (.int v1), some (.int v2), some (.int v3), some (.ref 29), none], [], (sL M1 29 (ix (0 : Int32)) w2.toInt64), 3)) else none)) := by rfl
set_option maxRecDepth 100000 in
theorem b_L_move_3 : (fun (v1 : Int32) (v2 : Int32) (v3 : Int32) (w2 : Int32) (M1 : Mem) => run C_L_move 3 (12, [some (.ref 0), some (.int v1), some (.int v2), some (.int v3), some (.ref 29), none], [], (sL M1 29 (ix (0 : Int32)) w2.toInt64), 3)) = (fun (v1 : Int32) (v2 : Int32) (v3 : Int32) (w2 : Int32) (M1 : Mem) => some (.inr (.inl (some (.int (0 : Int32))), (sL M1 29 (ix (0 : Int32)) w2.toInt64), 3))) := by rfl
def d_L_move (v1 : Int32) (v2 : Int32) (v3 : Int32) (M : Mem) : Option (Res × Mem) := (onI (d_X7_move v1 v2 v3 M) (fun w2 M1 => (if inb (0 : Int32) 1 = true then some (.inl (some (.int (0 : Int32))), (sL M1 29 (ix (0 : Int32)) w2.toInt64)) else none)) (fun r => match r.1 with | .inr E => if E = "java/lang/IndexOutOfBoundsException" then some (.inl (some (.int (1 : Int32))), r.2) else if E = "java/lang/IllegalArgumentException" then some (.inl (some (.int (2 : Int32))), r.2) else if E = "java/lang/IllegalStateException" then some (.inl (some (.int (3 : Int32))), r.2) else none | _ => none))
set_option maxHeartbeats 2000000 in
theorem r_L_move (v1 : Int32) (v2 : Int32) (v3 : Int32) (M : Mem) : RG C_L_move (0, [some (.ref 0), some (.int v1), some (.int v2), some (.int v3), some (.ref 29), none], [], M, 0) (d_L_move v1 v2 v3 M) (fun r => .inr r) := by
  unfold d_L_move
  refine RG.st 6 (congrFun (congrFun (congrFun (congrFun b_L_move_0 v1) v2) v3) M) ?_
  refine RG.callI (fun w2 M1 h1 => RG.st 1 (run_callV (v := (some (.int w2))) rfl rfl rfl rfl rfl h1) ?_) (fun E M1 h1 => ?_)
  rotate_left
  · dsimp only
    refine RG.ite (fun h4 => RG.fin rfl (Rend.run 1 (run_callVh (r := (1 : Int32)) rfl rfl rfl rfl rfl h1 rfl (by rw [h4]; rfl)))) (fun h4 => ?_)
    refine RG.ite (fun h5 => RG.fin rfl (Rend.run 1 (run_callVh (r := (2 : Int32)) rfl rfl rfl rfl rfl h1 rfl (by rw [h5]; rfl)))) (fun h5 => ?_)
    refine RG.ite (fun h6 => RG.fin rfl (Rend.run 1 (run_callVh (r := (3 : Int32)) rfl rfl rfl rfl rfl h1 rfl (by rw [h6]; rfl)))) (fun h6 => ?_)
    exact RG.none
  · show RG C_L_move (10, [some (.ref 0), some (.int v1), some (.int v2), some (.int v3), some (.ref 29), none], [.int w2, .int (0 : Int32), .ref 29], M1, 3) _ _
    refine RG.st 1 (congrFun (congrFun (congrFun (congrFun (congrFun b_L_move_1 v1) v2) v3) w2) M1) ?_
    refine RG.guard (fun h2 => RG.st 1 (stp_g h2 (congrFun (congrFun (congrFun (congrFun (congrFun b_L_move_2 v1) v2) v3) w2) M1)) ?_)
    exact RG.fin rfl (Rend.run 3 (congrFun (congrFun (congrFun (congrFun (congrFun b_L_move_3 v1) v2) v3) w2) M1))
def fn_L_move : Fn := fun av M => match av with
  | [.ref r0, .int v1, .int v2, .int v3, .ref r4] => bif Nat.beq r0 0 && Nat.beq r4 29 then (d_L_move v1 v2 v3 M) else (none)
  | _ => none
theorem cfg_L_move : CfgOK RL cL_move (C_L_move) 8 := ⟨tk_L_move, csF_nd, flk_L, (List.forall_mem_cons.mpr ⟨Or.inr ⟨yX7_move, cX7_move, 4, (some .int), none, 7, ok_X7_move, by decide, by decide, w_code_Sumsetry_move__III_I, w_initialized_Sumsetry, ⟨by decide, by decide⟩, Or.inr (Or.inr ⟨rfl, rfl, show (parseMethodDescriptor yX7_move.desc).map (fun d => d.parameters.length + 1) = some 4 from by decide +kernel, w_methodLink_SumsetryLaw_31, w_instanceMethod_Sumsetry_move__III_I, w_selects_Sumsetry_move__III_I, ⟨_, rfl, rfl⟩⟩)⟩, fun _ h => absurd h List.not_mem_nil⟩), ink_L, lgk_L, fun e h => absurd h List.not_mem_nil, (List.forall_mem_cons.mpr ⟨⟨by decide, w_classLink_SumsetryLaw_19, by decide⟩, List.forall_mem_cons.mpr ⟨⟨by decide, w_classLink_SumsetryLaw_13, by decide⟩, List.forall_mem_cons.mpr ⟨⟨by decide, w_classLink_SumsetryLaw_25, by decide⟩, fun _ h => absurd h List.not_mem_nil⟩⟩⟩)⟩
theorem ok_L_move : OkM csF yL_move (Cond.codeWith yL_move cL_move 6 (some .int) [(0, 12, 15, 19), (0, 12, 19, 13), (0, 12, 23, 25)]) 8 3 fn_L_move :=
  OkM_ofH (own := RL) (C := C_L_move) (hh := [(0, 12, 15, 19), (0, 12, 19, 13), (0, 12, 23, 25)]) (by decide +kernel) rfl (cfg_L_move) rfl rfl rfl rfl (by
    intro av M o M' h
    unfold fn_L_move at h
    split at h
    · rename_i r0 v1 v2 v3 r4
      rcases bif_cs h with ⟨hb, h⟩ | ⟨-, h⟩
      · simp only [Bool.and_eq_true] at hb
        obtain ⟨hr0, hr1⟩ := hb
        obtain rfl := Nat.eq_of_beq_eq_true hr0
        obtain rfl := Nat.eq_of_beq_eq_true hr1
        exact ⟨rfl, Nat.le_of_ble_eq_true rfl, (r_L_move v1 v2 v3 M) (o, M') h⟩
      · cases h
    · cases h)
def t_L_elements : List (Nat × Instr × Nat) := [(0, .aload_n 2, 1), (1, .iconst 0, 1), (2, .aload_n 0, 1), (3, .iload_n 1, 1), (4, .invokevirtual 34, 3), (7, .lastore, 1), (8, .goto 6, 3), (11, .astore_n 3, 1), (12, .iconst 1, 1), (13, .ireturn, 1), (14, .iconst 0, 1), (15, .ireturn, 1)]
theorem tk_L_elements : ∀ x ∈ t_L_elements, decode cL_elements x.1 = .ok x.2 := by decide +kernel
def C_L_elements : Cfg := (t_L_elements, csF, fl_L, [(34, 2, 5, 2, 1, fn_X7_elements)], in_L, lg_L, [], [(0, 8, 11, 19, "java/lang/IndexOutOfBoundsException")], none, (some .int), 1)
set_option maxRecDepth 100000 in
theorem b_L_elements_0 : (fun (v1 : Int32) (M : Mem) => run C_L_elements 4 (0, [some (.ref 0), some (.int v1), some (.ref 29), none], [], M, 0)) = (fun (v1 : Int32) (M : Mem) => some (.inl (4, [some (.ref 0), some (.int v1), some (.ref 29), none], [.int v1, .ref 0, .int (0 : Int32), .ref 29], M, 0))) := by rfl
set_option maxRecDepth 100000 in
theorem b_L_elements_1 : (fun (v1 : Int32) (w2 : Int64) (M1 : Mem) => stp C_L_elements (7, [some (.ref 0), some (.int v1), some (.ref 29), none], [.long w2, .int (0 : Int32), .ref 29], M1, 1)) = (fun (v1 : Int32) (w2 : Int64) (M1 : Mem) => (if inb (0 : Int32) 1 = true then some (.inl (8, [some (.ref 0), some (.int v1), some (.ref 29), none], [], (sL M1 29 (ix (0 : Int32)) w2), 1)) else none)) := by rfl
set_option maxRecDepth 100000 in
theorem b_L_elements_2 : (fun (v1 : Int32) (w2 : Int64) (M1 : Mem) => run C_L_elements 3 (8, [some (.ref 0), some (.int v1), some (.ref 29), none], [], (sL M1 29 (ix (0 : Int32)) w2), 1)) = (fun (v1 : Int32) (w2 : Int64) (M1 : Mem) => some (.inr (.inl (some (.int (0 : Int32))), (sL M1 29 (ix (0 : Int32)) w2), 1))) := by rfl
def d_L_elements (v1 : Int32) (M : Mem) : Option (Res × Mem) := (onL (d_X7_elements v1 M) (fun w2 M1 => (if inb (0 : Int32) 1 = true then some (.inl (some (.int (0 : Int32))), (sL M1 29 (ix (0 : Int32)) w2)) else none)) (fun r => match r.1 with | .inr E => if E = "java/lang/IndexOutOfBoundsException" then some (.inl (some (.int (1 : Int32))), r.2) else none | _ => none))
set_option maxHeartbeats 2000000 in
theorem r_L_elements (v1 : Int32) (M : Mem) : RG C_L_elements (0, [some (.ref 0), some (.int v1), some (.ref 29), none], [], M, 0) (d_L_elements v1 M) (fun r => .inr r) := by
  unfold d_L_elements
  refine RG.st 4 (congrFun (congrFun b_L_elements_0 v1) M) ?_
  refine RG.callL (fun w2 M1 h1 => RG.st 1 (run_callV (v := (some (.long w2))) rfl rfl rfl rfl rfl h1) ?_) (fun E M1 h1 => ?_)
  rotate_left
  · dsimp only
    refine RG.ite (fun h4 => RG.fin rfl (Rend.run 1 (run_callVh (r := (1 : Int32)) rfl rfl rfl rfl rfl h1 rfl (by rw [h4]; rfl)))) (fun h4 => ?_)
    exact RG.none
  · show RG C_L_elements (7, [some (.ref 0), some (.int v1), some (.ref 29), none], [.long w2, .int (0 : Int32), .ref 29], M1, 1) _ _
    refine RG.guard (fun h2 => RG.st 1 (stp_g h2 (congrFun (congrFun (congrFun b_L_elements_1 v1) w2) M1)) ?_)
    exact RG.fin rfl (Rend.run 3 (congrFun (congrFun (congrFun b_L_elements_2 v1) w2) M1))
def fn_L_elements : Fn := fun av M => match av with
  | [.ref r0, .int v1, .ref r2] => bif Nat.beq r0 0 && Nat.beq r2 29 then (d_L_elements v1 M) else (none)
  | _ => none
theorem cfg_L_elements : CfgOK RL cL_elements (C_L_elements) 8 := ⟨tk_L_elements, csF_nd, flk_L, (List.forall_mem_cons.mpr ⟨Or.inr ⟨yX7_elements, cX7_elements, 2, (some .long), none, 7, ok_X7_elements, by decide, by decide, w_code_Sumsetry_elements__I_J, w_initialized_Sumsetry, ⟨by decide, by decide⟩, Or.inr (Or.inr ⟨rfl, rfl, show (parseMethodDescriptor yX7_elements.desc).map (fun d => d.parameters.length + 1) = some 2 from by decide +kernel, w_methodLink_SumsetryLaw_34, w_instanceMethod_Sumsetry_elements__I_J, w_selects_Sumsetry_elements__I_J, ⟨_, rfl, rfl⟩⟩)⟩, fun _ h => absurd h List.not_mem_nil⟩), ink_L, lgk_L, fun e h => absurd h List.not_mem_nil, (List.forall_mem_cons.mpr ⟨⟨by decide, w_classLink_SumsetryLaw_19, by decide⟩, fun _ h => absurd h List.not_mem_nil⟩)⟩
theorem ok_L_elements : OkM csF yL_elements (Cond.codeWith yL_elements cL_elements 4 (some .int) [(0, 8, 11, 19)]) 8 1 fn_L_elements :=
  OkM_ofH (own := RL) (C := C_L_elements) (hh := [(0, 8, 11, 19)]) (by decide +kernel) rfl (cfg_L_elements) rfl rfl rfl rfl (by
    intro av M o M' h
    unfold fn_L_elements at h
    split at h
    · rename_i r0 v1 r2
      rcases bif_cs h with ⟨hb, h⟩ | ⟨-, h⟩
      · simp only [Bool.and_eq_true] at hb
        obtain ⟨hr0, hr1⟩ := hb
        obtain rfl := Nat.eq_of_beq_eq_true hr0
        obtain rfl := Nat.eq_of_beq_eq_true hr1
        exact ⟨rfl, Nat.le_of_ble_eq_true rfl, (r_L_elements v1 M) (o, M') h⟩
      · cases h
    · cases h)
def t_L_ways : List (Nat × Instr × Nat) := [(0, .aload 4, 2), (2, .iconst 0, 1), (3, .aload_n 0, 1), (4, .iload_n 1, 1), (5, .iload_n 2, 1), (6, .iload_n 3, 1), (7, .invokevirtual 38, 3), (10, .i2l, 1), (11, .lastore, 1), (12, .goto 7, 3), (15, .astore 5, 2), (17, .iconst 1, 1), (18, .ireturn, 1), (19, .iconst 0, 1), (20, .ireturn, 1)]
theorem tk_L_ways : ∀ x ∈ t_L_ways, decode cL_ways x.1 = .ok x.2 := by decide +kernel
def C_L_ways : Cfg := (t_L_ways, csF, fl_L, [(38, 2, 5, 4, 3, fn_X7_ways)], in_L, lg_L, [], [(0, 12, 15, 19, "java/lang/IndexOutOfBoundsException")], none, (some .int), 3)
set_option maxRecDepth 100000 in
theorem b_L_ways_0 : (fun (v1 : Int32) (v2 : Int32) (v3 : Int32) (M : Mem) => run C_L_ways 6 (0, [some (.ref 0), some (.int v1), some (.int v2), some (.int v3), some (.ref 29), none], [], M, 0)) = (fun (v1 : Int32) (v2 : Int32) (v3 : Int32) (M : Mem) => some (.inl (7, [some (.ref 0), some (.int v1), some (.int v2), some (.int v3), some (.ref 29), none], [.int v3, .int v2, .int v1, .ref 0, .int (0 : Int32), .ref 29], M, 0))) := by rfl
set_option maxRecDepth 100000 in
theorem b_L_ways_1 : (fun (v1 : Int32) (v2 : Int32) (v3 : Int32) (w2 : Int32) (M1 : Mem) => run C_L_ways 1 (10, [some (.ref 0), some (.int v1), some (.int v2), some (.int v3), some (.ref 29), none], [.int w2, .int (0 : Int32), .ref 29], M1, 3)) = (fun (v1 : Int32) (v2 : Int32) (v3 : Int32) (w2 : Int32) (M1 : Mem) => some (.inl (11, [some (.ref 0), some (.int v1), some (.int v2), some (.int v3), some (.ref 29), none], [.long w2.toInt64, .int (0 : Int32), .ref 29], M1, 3))) := by rfl
set_option maxRecDepth 100000 in
theorem b_L_ways_2 : (fun (v1 : Int32) (v2 : Int32) (v3 : Int32) (w2 : Int32) (M1 : Mem) => stp C_L_ways (11, [some (.ref 0), some (.int v1), some (.int v2), some (.int v3), some (.ref 29), none], [.long w2.toInt64, .int (0 : Int32), .ref 29], M1, 3)) = (fun (v1 : Int32) (v2 : Int32) (v3 : Int32) (w2 : Int32) (M1 : Mem) => (if inb (0 : Int32) 1 = true then some (.inl (12, [some (.ref 0), some (.int v1), some (.int v2), some (.int v3), some (.ref 29), none], [], (sL M1 29 (ix (0 : Int32)) w2.toInt64), 3)) else none)) := by rfl
set_option maxRecDepth 100000 in
theorem b_L_ways_3 : (fun (v1 : Int32) (v2 : Int32) (v3 : Int32) (w2 : Int32) (M1 : Mem) => run C_L_ways 3 (12, [some (.ref 0), some (.int v1), some (.int v2), some (.int v3), some (.ref 29), none], [], (sL M1 29 (ix (0 : Int32)) w2.toInt64), 3)) = (fun (v1 : Int32) (v2 : Int32) (v3 : Int32) (w2 : Int32) (M1 : Mem) => some (.inr (.inl (some (.int (0 : Int32))), (sL M1 29 (ix (0 : Int32)) w2.toInt64), 3))) := by rfl
def d_L_ways (v1 : Int32) (v2 : Int32) (v3 : Int32) (M : Mem) : Option (Res × Mem) := (onI (d_X7_ways v1 v2 v3 M) (fun w2 M1 => (if inb (0 : Int32) 1 = true then some (.inl (some (.int (0 : Int32))), (sL M1 29 (ix (0 : Int32)) w2.toInt64)) else none)) (fun r => match r.1 with | .inr E => if E = "java/lang/IndexOutOfBoundsException" then some (.inl (some (.int (1 : Int32))), r.2) else none | _ => none))
set_option maxHeartbeats 2000000 in
theorem r_L_ways (v1 : Int32) (v2 : Int32) (v3 : Int32) (M : Mem) : RG C_L_ways (0, [some (.ref 0), some (.int v1), some (.int v2), some (.int v3), some (.ref 29), none], [], M, 0) (d_L_ways v1 v2 v3 M) (fun r => .inr r) := by
  unfold d_L_ways
  refine RG.st 6 (congrFun (congrFun (congrFun (congrFun b_L_ways_0 v1) v2) v3) M) ?_
  refine RG.callI (fun w2 M1 h1 => RG.st 1 (run_callV (v := (some (.int w2))) rfl rfl rfl rfl rfl h1) ?_) (fun E M1 h1 => ?_)
  rotate_left
  · dsimp only
    refine RG.ite (fun h4 => RG.fin rfl (Rend.run 1 (run_callVh (r := (1 : Int32)) rfl rfl rfl rfl rfl h1 rfl (by rw [h4]; rfl)))) (fun h4 => ?_)
    exact RG.none
  · show RG C_L_ways (10, [some (.ref 0), some (.int v1), some (.int v2), some (.int v3), some (.ref 29), none], [.int w2, .int (0 : Int32), .ref 29], M1, 3) _ _
    refine RG.st 1 (congrFun (congrFun (congrFun (congrFun (congrFun b_L_ways_1 v1) v2) v3) w2) M1) ?_
    refine RG.guard (fun h2 => RG.st 1 (stp_g h2 (congrFun (congrFun (congrFun (congrFun (congrFun b_L_ways_2 v1) v2) v3) w2) M1)) ?_)
    exact RG.fin rfl (Rend.run 3 (congrFun (congrFun (congrFun (congrFun (congrFun b_L_ways_3 v1) v2) v3) w2) M1))
def fn_L_ways : Fn := fun av M => match av with
  | [.ref r0, .int v1, .int v2, .int v3, .ref r4] => bif Nat.beq r0 0 && Nat.beq r4 29 then (d_L_ways v1 v2 v3 M) else (none)
  | _ => none
theorem cfg_L_ways : CfgOK RL cL_ways (C_L_ways) 8 := ⟨tk_L_ways, csF_nd, flk_L, (List.forall_mem_cons.mpr ⟨Or.inr ⟨yX7_ways, cX7_ways, 4, (some .int), none, 7, ok_X7_ways, by decide, by decide, w_code_Sumsetry_ways__III_I, w_initialized_Sumsetry, ⟨by decide, by decide⟩, Or.inr (Or.inr ⟨rfl, rfl, show (parseMethodDescriptor yX7_ways.desc).map (fun d => d.parameters.length + 1) = some 4 from by decide +kernel, w_methodLink_SumsetryLaw_38, w_instanceMethod_Sumsetry_ways__III_I, w_selects_Sumsetry_ways__III_I, ⟨_, rfl, rfl⟩⟩)⟩, fun _ h => absurd h List.not_mem_nil⟩), ink_L, lgk_L, fun e h => absurd h List.not_mem_nil, (List.forall_mem_cons.mpr ⟨⟨by decide, w_classLink_SumsetryLaw_19, by decide⟩, fun _ h => absurd h List.not_mem_nil⟩)⟩
theorem ok_L_ways : OkM csF yL_ways (Cond.codeWith yL_ways cL_ways 6 (some .int) [(0, 12, 15, 19)]) 8 3 fn_L_ways :=
  OkM_ofH (own := RL) (C := C_L_ways) (hh := [(0, 12, 15, 19)]) (by decide +kernel) rfl (cfg_L_ways) rfl rfl rfl rfl (by
    intro av M o M' h
    unfold fn_L_ways at h
    split at h
    · rename_i r0 v1 v2 v3 r4
      rcases bif_cs h with ⟨hb, h⟩ | ⟨-, h⟩
      · simp only [Bool.and_eq_true] at hb
        obtain ⟨hr0, hr1⟩ := hb
        obtain rfl := Nat.eq_of_beq_eq_true hr0
        obtain rfl := Nat.eq_of_beq_eq_true hr1
        exact ⟨rfl, Nat.le_of_ble_eq_true rfl, (r_L_ways v1 v2 v3 M) (o, M') h⟩
      · cases h
    · cases h)
def t_L_popular : List (Nat × Instr × Nat) := [(0, .aload 4, 2), (2, .iconst 0, 1), (3, .aload_n 0, 1), (4, .iload_n 1, 1), (5, .iload_n 2, 1), (6, .iload_n 3, 1), (7, .invokevirtual 41, 3), (10, .lastore, 1), (11, .goto 11, 3), (14, .astore 5, 2), (16, .iconst 1, 1), (17, .ireturn, 1), (18, .astore 5, 2), (20, .iconst 2, 1), (21, .ireturn, 1), (22, .iconst 0, 1), (23, .ireturn, 1)]
theorem tk_L_popular : ∀ x ∈ t_L_popular, decode cL_popular x.1 = .ok x.2 := by decide +kernel
def C_L_popular : Cfg := (t_L_popular, csF, fl_L, [(41, 2, 5, 4, 3, fn_X7_popular)], in_L, lg_L, [], [(0, 11, 14, 19, "java/lang/IndexOutOfBoundsException"), (0, 11, 18, 13, "java/lang/IllegalArgumentException")], none, (some .int), 3)
set_option maxRecDepth 100000 in
theorem b_L_popular_0 : (fun (v1 : Int32) (v2 : Int32) (v3 : Int32) (M : Mem) => run C_L_popular 6 (0, [some (.ref 0), some (.int v1), some (.int v2), some (.int v3), some (.ref 29), none], [], M, 0)) = (fun (v1 : Int32) (v2 : Int32) (v3 : Int32) (M : Mem) => some (.inl (7, [some (.ref 0), some (.int v1), some (.int v2), some (.int v3), some (.ref 29), none], [.int v3, .int v2, .int v1, .ref 0, .int (0 : Int32), .ref 29], M, 0))) := by rfl
set_option maxRecDepth 100000 in
theorem b_L_popular_1 : (fun (v1 : Int32) (v2 : Int32) (v3 : Int32) (w2 : Int64) (M1 : Mem) => stp C_L_popular (10, [some (.ref 0), some (.int v1), some (.int v2), some (.int v3), some (.ref 29), none], [.long w2, .int (0 : Int32), .ref 29], M1, 3)) = (fun (v1 : Int32) (v2 : Int32) (v3 : Int32) (w2 : Int64) (M1 : Mem) => (if inb (0 : Int32) 1 = true then some (.inl (11, [some (.ref 0), some (.int v1), some (.int v2), some (.int v3), some (.ref 29), none], [], (sL M1 29 (ix (0 : Int32)) w2), 3)) else none)) := by rfl
set_option maxRecDepth 100000 in
theorem b_L_popular_2 : (fun (v1 : Int32) (v2 : Int32) (v3 : Int32) (w2 : Int64) (M1 : Mem) => run C_L_popular 3 (11, [some (.ref 0), some (.int v1), some (.int v2), some (.int v3), some (.ref 29), none], [], (sL M1 29 (ix (0 : Int32)) w2), 3)) = (fun (v1 : Int32) (v2 : Int32) (v3 : Int32) (w2 : Int64) (M1 : Mem) => some (.inr (.inl (some (.int (0 : Int32))), (sL M1 29 (ix (0 : Int32)) w2), 3))) := by rfl
def d_L_popular (v1 : Int32) (v2 : Int32) (v3 : Int32) (M : Mem) : Option (Res × Mem) := (onL (d_X7_popular v1 v2 v3 M) (fun w2 M1 => (if inb (0 : Int32) 1 = true then some (.inl (some (.int (0 : Int32))), (sL M1 29 (ix (0 : Int32)) w2)) else none)) (fun r => match r.1 with | .inr E => if E = "java/lang/IndexOutOfBoundsException" then some (.inl (some (.int (1 : Int32))), r.2) else if E = "java/lang/IllegalArgumentException" then some (.inl (some (.int (2 : Int32))), r.2) else none | _ => none))
set_option maxHeartbeats 2000000 in
theorem r_L_popular (v1 : Int32) (v2 : Int32) (v3 : Int32) (M : Mem) : RG C_L_popular (0, [some (.ref 0), some (.int v1), some (.int v2), some (.int v3), some (.ref 29), none], [], M, 0) (d_L_popular v1 v2 v3 M) (fun r => .inr r) := by
  unfold d_L_popular
  refine RG.st 6 (congrFun (congrFun (congrFun (congrFun b_L_popular_0 v1) v2) v3) M) ?_
  refine RG.callL (fun w2 M1 h1 => RG.st 1 (run_callV (v := (some (.long w2))) rfl rfl rfl rfl rfl h1) ?_) (fun E M1 h1 => ?_)
  rotate_left
  · dsimp only
    refine RG.ite (fun h4 => RG.fin rfl (Rend.run 1 (run_callVh (r := (1 : Int32)) rfl rfl rfl rfl rfl h1 rfl (by rw [h4]; rfl)))) (fun h4 => ?_)
    refine RG.ite (fun h5 => RG.fin rfl (Rend.run 1 (run_callVh (r := (2 : Int32)) rfl rfl rfl rfl rfl h1 rfl (by rw [h5]; rfl)))) (fun h5 => ?_)
    exact RG.none
  · show RG C_L_popular (10, [some (.ref 0), some (.int v1), some (.int v2), some (.int v3), some (.ref 29), none], [.long w2, .int (0 : Int32), .ref 29], M1, 3) _ _
    refine RG.guard (fun h2 => RG.st 1 (stp_g h2 (congrFun (congrFun (congrFun (congrFun (congrFun b_L_popular_1 v1) v2) v3) w2) M1)) ?_)
    exact RG.fin rfl (Rend.run 3 (congrFun (congrFun (congrFun (congrFun (congrFun b_L_popular_2 v1) v2) v3) w2) M1))
def fn_L_popular : Fn := fun av M => match av with
  | [.ref r0, .int v1, .int v2, .int v3, .ref r4] => bif Nat.beq r0 0 && Nat.beq r4 29 then (d_L_popular v1 v2 v3 M) else (none)
  | _ => none
theorem cfg_L_popular : CfgOK RL cL_popular (C_L_popular) 8 := ⟨tk_L_popular, csF_nd, flk_L, (List.forall_mem_cons.mpr ⟨Or.inr ⟨yX7_popular, cX7_popular, 7, (some .long), none, 7, ok_X7_popular, by decide, by decide, w_code_Sumsetry_popular__III_J, w_initialized_Sumsetry, ⟨by decide, by decide⟩, Or.inr (Or.inr ⟨rfl, rfl, show (parseMethodDescriptor yX7_popular.desc).map (fun d => d.parameters.length + 1) = some 4 from by decide +kernel, w_methodLink_SumsetryLaw_41, w_instanceMethod_Sumsetry_popular__III_J, w_selects_Sumsetry_popular__III_J, ⟨_, rfl, rfl⟩⟩)⟩, fun _ h => absurd h List.not_mem_nil⟩), ink_L, lgk_L, fun e h => absurd h List.not_mem_nil, (List.forall_mem_cons.mpr ⟨⟨by decide, w_classLink_SumsetryLaw_19, by decide⟩, List.forall_mem_cons.mpr ⟨⟨by decide, w_classLink_SumsetryLaw_13, by decide⟩, fun _ h => absurd h List.not_mem_nil⟩⟩)⟩
theorem ok_L_popular : OkM csF yL_popular (Cond.codeWith yL_popular cL_popular 6 (some .int) [(0, 11, 14, 19), (0, 11, 18, 13)]) 8 3 fn_L_popular :=
  OkM_ofH (own := RL) (C := C_L_popular) (hh := [(0, 11, 14, 19), (0, 11, 18, 13)]) (by decide +kernel) rfl (cfg_L_popular) rfl rfl rfl rfl (by
    intro av M o M' h
    unfold fn_L_popular at h
    split at h
    · rename_i r0 v1 v2 v3 r4
      rcases bif_cs h with ⟨hb, h⟩ | ⟨-, h⟩
      · simp only [Bool.and_eq_true] at hb
        obtain ⟨hr0, hr1⟩ := hb
        obtain rfl := Nat.eq_of_beq_eq_true hr0
        obtain rfl := Nat.eq_of_beq_eq_true hr1
        exact ⟨rfl, Nat.le_of_ble_eq_true rfl, (r_L_popular v1 v2 v3 M) (o, M') h⟩
      · cases h
    · cases h)
def t_L_energy : List (Nat × Instr × Nat) := [(0, .aload_n 3, 1), (1, .iconst 0, 1), (2, .aload_n 0, 1), (3, .iload_n 1, 1), (4, .iload_n 2, 1), (5, .invokevirtual 45, 3), (8, .i2l, 1), (9, .lastore, 1), (10, .goto 7, 3), (13, .astore 4, 2), (15, .iconst 1, 1), (16, .ireturn, 1), (17, .iconst 0, 1), (18, .ireturn, 1)]
theorem tk_L_energy : ∀ x ∈ t_L_energy, decode cL_energy x.1 = .ok x.2 := by decide +kernel
def C_L_energy : Cfg := (t_L_energy, csF, fl_L, [(45, 2, 5, 3, 2, fn_X7_energy)], in_L, lg_L, [], [(0, 10, 13, 19, "java/lang/IndexOutOfBoundsException")], none, (some .int), 2)
set_option maxRecDepth 100000 in
theorem b_L_energy_0 : (fun (v1 : Int32) (v2 : Int32) (M : Mem) => run C_L_energy 5 (0, [some (.ref 0), some (.int v1), some (.int v2), some (.ref 29), none], [], M, 0)) = (fun (v1 : Int32) (v2 : Int32) (M : Mem) => some (.inl (5, [some (.ref 0), some (.int v1), some (.int v2), some (.ref 29), none], [.int v2, .int v1, .ref 0, .int (0 : Int32), .ref 29], M, 0))) := by rfl
set_option maxRecDepth 100000 in
theorem b_L_energy_1 : (fun (v1 : Int32) (v2 : Int32) (w2 : Int32) (M1 : Mem) => run C_L_energy 1 (8, [some (.ref 0), some (.int v1), some (.int v2), some (.ref 29), none], [.int w2, .int (0 : Int32), .ref 29], M1, 2)) = (fun (v1 : Int32) (v2 : Int32) (w2 : Int32) (M1 : Mem) => some (.inl (9, [some (.ref 0), some (.int v1), some (.int v2), some (.ref 29), none], [.long w2.toInt64, .int (0 : Int32), .ref 29], M1, 2))) := by rfl
set_option maxRecDepth 100000 in
theorem b_L_energy_2 : (fun (v1 : Int32) (v2 : Int32) (w2 : Int32) (M1 : Mem) => stp C_L_energy (9, [some (.ref 0), some (.int v1), some (.int v2), some (.ref 29), none], [.long w2.toInt64, .int (0 : Int32), .ref 29], M1, 2)) = (fun (v1 : Int32) (v2 : Int32) (w2 : Int32) (M1 : Mem) => (if inb (0 : Int32) 1 = true then some (.inl (10, [some (.ref 0), some (.int v1), some (.int v2), some (.ref 29), none], [], (sL M1 29 (ix (0 : Int32)) w2.toInt64), 2)) else none)) := by rfl
set_option maxRecDepth 100000 in
theorem b_L_energy_3 : (fun (v1 : Int32) (v2 : Int32) (w2 : Int32) (M1 : Mem) => run C_L_energy 3 (10, [some (.ref 0), some (.int v1), some (.int v2), some (.ref 29), none], [], (sL M1 29 (ix (0 : Int32)) w2.toInt64), 2)) = (fun (v1 : Int32) (v2 : Int32) (w2 : Int32) (M1 : Mem) => some (.inr (.inl (some (.int (0 : Int32))), (sL M1 29 (ix (0 : Int32)) w2.toInt64), 2))) := by rfl
def d_L_energy (v1 : Int32) (v2 : Int32) (M : Mem) : Option (Res × Mem) := (onI (d_X7_energy v1 v2 M) (fun w2 M1 => (if inb (0 : Int32) 1 = true then some (.inl (some (.int (0 : Int32))), (sL M1 29 (ix (0 : Int32)) w2.toInt64)) else none)) (fun r => match r.1 with | .inr E => if E = "java/lang/IndexOutOfBoundsException" then some (.inl (some (.int (1 : Int32))), r.2) else none | _ => none))
set_option maxHeartbeats 2000000 in
theorem r_L_energy (v1 : Int32) (v2 : Int32) (M : Mem) : RG C_L_energy (0, [some (.ref 0), some (.int v1), some (.int v2), some (.ref 29), none], [], M, 0) (d_L_energy v1 v2 M) (fun r => .inr r) := by
  unfold d_L_energy
  refine RG.st 5 (congrFun (congrFun (congrFun b_L_energy_0 v1) v2) M) ?_
  refine RG.callI (fun w2 M1 h1 => RG.st 1 (run_callV (v := (some (.int w2))) rfl rfl rfl rfl rfl h1) ?_) (fun E M1 h1 => ?_)
  rotate_left
  · dsimp only
    refine RG.ite (fun h4 => RG.fin rfl (Rend.run 1 (run_callVh (r := (1 : Int32)) rfl rfl rfl rfl rfl h1 rfl (by rw [h4]; rfl)))) (fun h4 => ?_)
    exact RG.none
  · show RG C_L_energy (8, [some (.ref 0), some (.int v1), some (.int v2), some (.ref 29), none], [.int w2, .int (0 : Int32), .ref 29], M1, 2) _ _
    refine RG.st 1 (congrFun (congrFun (congrFun (congrFun b_L_energy_1 v1) v2) w2) M1) ?_
    refine RG.guard (fun h2 => RG.st 1 (stp_g h2 (congrFun (congrFun (congrFun (congrFun b_L_energy_2 v1) v2) w2) M1)) ?_)
    exact RG.fin rfl (Rend.run 3 (congrFun (congrFun (congrFun (congrFun b_L_energy_3 v1) v2) w2) M1))
def fn_L_energy : Fn := fun av M => match av with
  | [.ref r0, .int v1, .int v2, .ref r3] => bif Nat.beq r0 0 && Nat.beq r3 29 then (d_L_energy v1 v2 M) else (none)
  | _ => none
theorem cfg_L_energy : CfgOK RL cL_energy (C_L_energy) 8 := ⟨tk_L_energy, csF_nd, flk_L, (List.forall_mem_cons.mpr ⟨Or.inr ⟨yX7_energy, cX7_energy, 6, (some .int), none, 7, ok_X7_energy, by decide, by decide, w_code_Sumsetry_energy__II_I, w_initialized_Sumsetry, ⟨by decide, by decide⟩, Or.inr (Or.inr ⟨rfl, rfl, show (parseMethodDescriptor yX7_energy.desc).map (fun d => d.parameters.length + 1) = some 3 from by decide +kernel, w_methodLink_SumsetryLaw_45, w_instanceMethod_Sumsetry_energy__II_I, w_selects_Sumsetry_energy__II_I, ⟨_, rfl, rfl⟩⟩)⟩, fun _ h => absurd h List.not_mem_nil⟩), ink_L, lgk_L, fun e h => absurd h List.not_mem_nil, (List.forall_mem_cons.mpr ⟨⟨by decide, w_classLink_SumsetryLaw_19, by decide⟩, fun _ h => absurd h List.not_mem_nil⟩)⟩
theorem ok_L_energy : OkM csF yL_energy (Cond.codeWith yL_energy cL_energy 5 (some .int) [(0, 10, 13, 19)]) 8 2 fn_L_energy :=
  OkM_ofH (own := RL) (C := C_L_energy) (hh := [(0, 10, 13, 19)]) (by decide +kernel) rfl (cfg_L_energy) rfl rfl rfl rfl (by
    intro av M o M' h
    unfold fn_L_energy at h
    split at h
    · rename_i r0 v1 v2 r3
      rcases bif_cs h with ⟨hb, h⟩ | ⟨-, h⟩
      · simp only [Bool.and_eq_true] at hb
        obtain ⟨hr0, hr1⟩ := hb
        obtain rfl := Nat.eq_of_beq_eq_true hr0
        obtain rfl := Nat.eq_of_beq_eq_true hr1
        exact ⟨rfl, Nat.le_of_ble_eq_true rfl, (r_L_energy v1 v2 M) (o, M') h⟩
      · cases h
    · cases h)
def t_L_energyAnew : List (Nat × Instr × Nat) := [(0, .aload_n 3, 1), (1, .iconst 0, 1), (2, .aload_n 0, 1), (3, .iload_n 1, 1), (4, .iload_n 2, 1), (5, .invokevirtual 48, 3), (8, .i2l, 1), (9, .lastore, 1), (10, .goto 7, 3), (13, .astore 4, 2), (15, .iconst 1, 1), (16, .ireturn, 1), (17, .iconst 0, 1), (18, .ireturn, 1)]
theorem tk_L_energyAnew : ∀ x ∈ t_L_energyAnew, decode cL_energyAnew x.1 = .ok x.2 := by decide +kernel
def C_L_energyAnew : Cfg := (t_L_energyAnew, csF, fl_L, [(48, 2, 5, 3, 2, fn_X7_energyAnew)], in_L, lg_L, [], [(0, 10, 13, 19, "java/lang/IndexOutOfBoundsException")], none, (some .int), 2)
set_option maxRecDepth 100000 in
theorem b_L_energyAnew_0 : (fun (v1 : Int32) (v2 : Int32) (M : Mem) => run C_L_energyAnew 5 (0, [some (.ref 0), some (.int v1), some (.int v2), some (.ref 29), none], [], M, 0)) = (fun (v1 : Int32) (v2 : Int32) (M : Mem) => some (.inl (5, [some (.ref 0), some (.int v1), some (.int v2), some (.ref 29), none], [.int v2, .int v1, .ref 0, .int (0 : Int32), .ref 29], M, 0))) := by rfl
set_option maxRecDepth 100000 in
theorem b_L_energyAnew_1 : (fun (v1 : Int32) (v2 : Int32) (w2 : Int32) (M1 : Mem) => run C_L_energyAnew 1 (8, [some (.ref 0), some (.int v1), some (.int v2), some (.ref 29), none], [.int w2, .int (0 : Int32), .ref 29], M1, 2)) = (fun (v1 : Int32) (v2 : Int32) (w2 : Int32) (M1 : Mem) => some (.inl (9, [some (.ref 0), some (.int v1), some (.int v2), some (.ref 29), none], [.long w2.toInt64, .int (0 : Int32), .ref 29], M1, 2))) := by rfl
set_option maxRecDepth 100000 in
theorem b_L_energyAnew_2 : (fun (v1 : Int32) (v2 : Int32) (w2 : Int32) (M1 : Mem) => stp C_L_energyAnew (9, [some (.ref 0), some (.int v1), some (.int v2), some (.ref 29), none], [.long w2.toInt64, .int (0 : Int32), .ref 29], M1, 2)) = (fun (v1 : Int32) (v2 : Int32) (w2 : Int32) (M1 : Mem) => (if inb (0 : Int32) 1 = true then some (.inl (10, [some (.ref 0), some (.int v1), some (.int v2), some (.ref 29), none], [], (sL M1 29 (ix (0 : Int32)) w2.toInt64), 2)) else none)) := by rfl
set_option maxRecDepth 100000 in
theorem b_L_energyAnew_3 : (fun (v1 : Int32) (v2 : Int32) (w2 : Int32) (M1 : Mem) => run C_L_energyAnew 3 (10, [some (.ref 0), some (.int v1), some (.int v2), some (.ref 29), none], [], (sL M1 29 (ix (0 : Int32)) w2.toInt64), 2)) = (fun (v1 : Int32) (v2 : Int32) (w2 : Int32) (M1 : Mem) => some (.inr (.inl (some (.int (0 : Int32))), (sL M1 29 (ix (0 : Int32)) w2.toInt64), 2))) := by rfl
def d_L_energyAnew (v1 : Int32) (v2 : Int32) (M : Mem) : Option (Res × Mem) := (onI (d_X7_energyAnew v1 v2 M) (fun w2 M1 => (if inb (0 : Int32) 1 = true then some (.inl (some (.int (0 : Int32))), (sL M1 29 (ix (0 : Int32)) w2.toInt64)) else none)) (fun r => match r.1 with | .inr E => if E = "java/lang/IndexOutOfBoundsException" then some (.inl (some (.int (1 : Int32))), r.2) else none | _ => none))
set_option maxHeartbeats 2000000 in
theorem r_L_energyAnew (v1 : Int32) (v2 : Int32) (M : Mem) : RG C_L_energyAnew (0, [some (.ref 0), some (.int v1), some (.int v2), some (.ref 29), none], [], M, 0) (d_L_energyAnew v1 v2 M) (fun r => .inr r) := by
  unfold d_L_energyAnew
  refine RG.st 5 (congrFun (congrFun (congrFun b_L_energyAnew_0 v1) v2) M) ?_
  refine RG.callI (fun w2 M1 h1 => RG.st 1 (run_callV (v := (some (.int w2))) rfl rfl rfl rfl rfl h1) ?_) (fun E M1 h1 => ?_)
  rotate_left
  · dsimp only
    refine RG.ite (fun h4 => RG.fin rfl (Rend.run 1 (run_callVh (r := (1 : Int32)) rfl rfl rfl rfl rfl h1 rfl (by rw [h4]; rfl)))) (fun h4 => ?_)
    exact RG.none
  · show RG C_L_energyAnew (8, [some (.ref 0), some (.int v1), some (.int v2), some (.ref 29), none], [.int w2, .int (0 : Int32), .ref 29], M1, 2) _ _
    refine RG.st 1 (congrFun (congrFun (congrFun (congrFun b_L_energyAnew_1 v1) v2) w2) M1) ?_
    refine RG.guard (fun h2 => RG.st 1 (stp_g h2 (congrFun (congrFun (congrFun (congrFun b_L_energyAnew_2 v1) v2) w2) M1)) ?_)
    exact RG.fin rfl (Rend.run 3 (congrFun (congrFun (congrFun (congrFun b_L_energyAnew_3 v1) v2) w2) M1))
def fn_L_energyAnew : Fn := fun av M => match av with
  | [.ref r0, .int v1, .int v2, .ref r3] => bif Nat.beq r0 0 && Nat.beq r3 29 then (d_L_energyAnew v1 v2 M) else (none)
  | _ => none
theorem cfg_L_energyAnew : CfgOK RL cL_energyAnew (C_L_energyAnew) 8 := ⟨tk_L_energyAnew, csF_nd, flk_L, (List.forall_mem_cons.mpr ⟨Or.inr ⟨yX7_energyAnew, cX7_energyAnew, 5, (some .int), none, 7, ok_X7_energyAnew, by decide, by decide, w_code_Sumsetry_energyAnew__II_I, w_initialized_Sumsetry, ⟨by decide, by decide⟩, Or.inr (Or.inr ⟨rfl, rfl, show (parseMethodDescriptor yX7_energyAnew.desc).map (fun d => d.parameters.length + 1) = some 3 from by decide +kernel, w_methodLink_SumsetryLaw_48, w_instanceMethod_Sumsetry_energyAnew__II_I, w_selects_Sumsetry_energyAnew__II_I, ⟨_, rfl, rfl⟩⟩)⟩, fun _ h => absurd h List.not_mem_nil⟩), ink_L, lgk_L, fun e h => absurd h List.not_mem_nil, (List.forall_mem_cons.mpr ⟨⟨by decide, w_classLink_SumsetryLaw_19, by decide⟩, fun _ h => absurd h List.not_mem_nil⟩)⟩
theorem ok_L_energyAnew : OkM csF yL_energyAnew (Cond.codeWith yL_energyAnew cL_energyAnew 5 (some .int) [(0, 10, 13, 19)]) 8 2 fn_L_energyAnew :=
  OkM_ofH (own := RL) (C := C_L_energyAnew) (hh := [(0, 10, 13, 19)]) (by decide +kernel) rfl (cfg_L_energyAnew) rfl rfl rfl rfl (by
    intro av M o M' h
    unfold fn_L_energyAnew at h
    split at h
    · rename_i r0 v1 v2 r3
      rcases bif_cs h with ⟨hb, h⟩ | ⟨-, h⟩
      · simp only [Bool.and_eq_true] at hb
        obtain ⟨hr0, hr1⟩ := hb
        obtain rfl := Nat.eq_of_beq_eq_true hr0
        obtain rfl := Nat.eq_of_beq_eq_true hr1
        exact ⟨rfl, Nat.le_of_ble_eq_true rfl, (r_L_energyAnew v1 v2 M) (o, M') h⟩
      · cases h
    · cases h)
def t_L_stabilizer : List (Nat × Instr × Nat) := [(0, .aload_n 2, 1), (1, .iconst 0, 1), (2, .aload_n 0, 1), (3, .iload_n 1, 1), (4, .invokevirtual 51, 3), (7, .lastore, 1), (8, .goto 6, 3), (11, .astore_n 3, 1), (12, .iconst 1, 1), (13, .ireturn, 1), (14, .iconst 0, 1), (15, .ireturn, 1)]
theorem tk_L_stabilizer : ∀ x ∈ t_L_stabilizer, decode cL_stabilizer x.1 = .ok x.2 := by decide +kernel
def C_L_stabilizer : Cfg := (t_L_stabilizer, csF, fl_L, [(51, 2, 5, 2, 1, fn_X7_stabilizer)], in_L, lg_L, [], [(0, 8, 11, 19, "java/lang/IndexOutOfBoundsException")], none, (some .int), 1)
set_option maxRecDepth 100000 in
theorem b_L_stabilizer_0 : (fun (v1 : Int32) (M : Mem) => run C_L_stabilizer 4 (0, [some (.ref 0), some (.int v1), some (.ref 29), none], [], M, 0)) = (fun (v1 : Int32) (M : Mem) => some (.inl (4, [some (.ref 0), some (.int v1), some (.ref 29), none], [.int v1, .ref 0, .int (0 : Int32), .ref 29], M, 0))) := by rfl
set_option maxRecDepth 100000 in
theorem b_L_stabilizer_1 : (fun (v1 : Int32) (w2 : Int64) (M1 : Mem) => stp C_L_stabilizer (7, [some (.ref 0), some (.int v1), some (.ref 29), none], [.long w2, .int (0 : Int32), .ref 29], M1, 1)) = (fun (v1 : Int32) (w2 : Int64) (M1 : Mem) => (if inb (0 : Int32) 1 = true then some (.inl (8, [some (.ref 0), some (.int v1), some (.ref 29), none], [], (sL M1 29 (ix (0 : Int32)) w2), 1)) else none)) := by rfl
set_option maxRecDepth 100000 in
theorem b_L_stabilizer_2 : (fun (v1 : Int32) (w2 : Int64) (M1 : Mem) => run C_L_stabilizer 3 (8, [some (.ref 0), some (.int v1), some (.ref 29), none], [], (sL M1 29 (ix (0 : Int32)) w2), 1)) = (fun (v1 : Int32) (w2 : Int64) (M1 : Mem) => some (.inr (.inl (some (.int (0 : Int32))), (sL M1 29 (ix (0 : Int32)) w2), 1))) := by rfl
def d_L_stabilizer (v1 : Int32) (M : Mem) : Option (Res × Mem) := (onL (d_X7_stabilizer v1 M) (fun w2 M1 => (if inb (0 : Int32) 1 = true then some (.inl (some (.int (0 : Int32))), (sL M1 29 (ix (0 : Int32)) w2)) else none)) (fun r => match r.1 with | .inr E => if E = "java/lang/IndexOutOfBoundsException" then some (.inl (some (.int (1 : Int32))), r.2) else none | _ => none))
set_option maxHeartbeats 2000000 in
theorem r_L_stabilizer (v1 : Int32) (M : Mem) : RG C_L_stabilizer (0, [some (.ref 0), some (.int v1), some (.ref 29), none], [], M, 0) (d_L_stabilizer v1 M) (fun r => .inr r) := by
  unfold d_L_stabilizer
  refine RG.st 4 (congrFun (congrFun b_L_stabilizer_0 v1) M) ?_
  refine RG.callL (fun w2 M1 h1 => RG.st 1 (run_callV (v := (some (.long w2))) rfl rfl rfl rfl rfl h1) ?_) (fun E M1 h1 => ?_)
  rotate_left
  · dsimp only
    refine RG.ite (fun h4 => RG.fin rfl (Rend.run 1 (run_callVh (r := (1 : Int32)) rfl rfl rfl rfl rfl h1 rfl (by rw [h4]; rfl)))) (fun h4 => ?_)
    exact RG.none
  · show RG C_L_stabilizer (7, [some (.ref 0), some (.int v1), some (.ref 29), none], [.long w2, .int (0 : Int32), .ref 29], M1, 1) _ _
    refine RG.guard (fun h2 => RG.st 1 (stp_g h2 (congrFun (congrFun (congrFun b_L_stabilizer_1 v1) w2) M1)) ?_)
    exact RG.fin rfl (Rend.run 3 (congrFun (congrFun (congrFun b_L_stabilizer_2 v1) w2) M1))
def fn_L_stabilizer : Fn := fun av M => match av with
  | [.ref r0, .int v1, .ref r2] => bif Nat.beq r0 0 && Nat.beq r2 29 then (d_L_stabilizer v1 M) else (none)
  | _ => none
theorem cfg_L_stabilizer : CfgOK RL cL_stabilizer (C_L_stabilizer) 8 := ⟨tk_L_stabilizer, csF_nd, flk_L, (List.forall_mem_cons.mpr ⟨Or.inr ⟨yX7_stabilizer, cX7_stabilizer, 2, (some .long), none, 7, ok_X7_stabilizer, by decide, by decide, w_code_Sumsetry_stabilizer__I_J, w_initialized_Sumsetry, ⟨by decide, by decide⟩, Or.inr (Or.inr ⟨rfl, rfl, show (parseMethodDescriptor yX7_stabilizer.desc).map (fun d => d.parameters.length + 1) = some 2 from by decide +kernel, w_methodLink_SumsetryLaw_51, w_instanceMethod_Sumsetry_stabilizer__I_J, w_selects_Sumsetry_stabilizer__I_J, ⟨_, rfl, rfl⟩⟩)⟩, fun _ h => absurd h List.not_mem_nil⟩), ink_L, lgk_L, fun e h => absurd h List.not_mem_nil, (List.forall_mem_cons.mpr ⟨⟨by decide, w_classLink_SumsetryLaw_19, by decide⟩, fun _ h => absurd h List.not_mem_nil⟩)⟩
theorem ok_L_stabilizer : OkM csF yL_stabilizer (Cond.codeWith yL_stabilizer cL_stabilizer 4 (some .int) [(0, 8, 11, 19)]) 8 1 fn_L_stabilizer :=
  OkM_ofH (own := RL) (C := C_L_stabilizer) (hh := [(0, 8, 11, 19)]) (by decide +kernel) rfl (cfg_L_stabilizer) rfl rfl rfl rfl (by
    intro av M o M' h
    unfold fn_L_stabilizer at h
    split at h
    · rename_i r0 v1 r2
      rcases bif_cs h with ⟨hb, h⟩ | ⟨-, h⟩
      · simp only [Bool.and_eq_true] at hb
        obtain ⟨hr0, hr1⟩ := hb
        obtain rfl := Nat.eq_of_beq_eq_true hr0
        obtain rfl := Nat.eq_of_beq_eq_true hr1
        exact ⟨rfl, Nat.le_of_ble_eq_true rfl, (r_L_stabilizer v1 M) (o, M') h⟩
      · cases h
    · cases h)
def t_L_excess : List (Nat × Instr × Nat) := [(0, .aload_n 3, 1), (1, .iconst 0, 1), (2, .aload_n 0, 1), (3, .iload_n 1, 1), (4, .iload_n 2, 1), (5, .invokevirtual 54, 3), (8, .i2l, 1), (9, .lastore, 1), (10, .goto 7, 3), (13, .astore 4, 2), (15, .iconst 1, 1), (16, .ireturn, 1), (17, .iconst 0, 1), (18, .ireturn, 1)]
theorem tk_L_excess : ∀ x ∈ t_L_excess, decode cL_excess x.1 = .ok x.2 := by decide +kernel
def C_L_excess : Cfg := (t_L_excess, csF, fl_L, [(54, 2, 5, 3, 2, fn_X7_excess)], in_L, lg_L, [], [(0, 10, 13, 19, "java/lang/IndexOutOfBoundsException")], none, (some .int), 2)
set_option maxRecDepth 100000 in
theorem b_L_excess_0 : (fun (v1 : Int32) (v2 : Int32) (M : Mem) => run C_L_excess 5 (0, [some (.ref 0), some (.int v1), some (.int v2), some (.ref 29), none], [], M, 0)) = (fun (v1 : Int32) (v2 : Int32) (M : Mem) => some (.inl (5, [some (.ref 0), some (.int v1), some (.int v2), some (.ref 29), none], [.int v2, .int v1, .ref 0, .int (0 : Int32), .ref 29], M, 0))) := by rfl
set_option maxRecDepth 100000 in
theorem b_L_excess_1 : (fun (v1 : Int32) (v2 : Int32) (w2 : Int32) (M1 : Mem) => run C_L_excess 1 (8, [some (.ref 0), some (.int v1), some (.int v2), some (.ref 29), none], [.int w2, .int (0 : Int32), .ref 29], M1, 2)) = (fun (v1 : Int32) (v2 : Int32) (w2 : Int32) (M1 : Mem) => some (.inl (9, [some (.ref 0), some (.int v1), some (.int v2), some (.ref 29), none], [.long w2.toInt64, .int (0 : Int32), .ref 29], M1, 2))) := by rfl
set_option maxRecDepth 100000 in
theorem b_L_excess_2 : (fun (v1 : Int32) (v2 : Int32) (w2 : Int32) (M1 : Mem) => stp C_L_excess (9, [some (.ref 0), some (.int v1), some (.int v2), some (.ref 29), none], [.long w2.toInt64, .int (0 : Int32), .ref 29], M1, 2)) = (fun (v1 : Int32) (v2 : Int32) (w2 : Int32) (M1 : Mem) => (if inb (0 : Int32) 1 = true then some (.inl (10, [some (.ref 0), some (.int v1), some (.int v2), some (.ref 29), none], [], (sL M1 29 (ix (0 : Int32)) w2.toInt64), 2)) else none)) := by rfl
set_option maxRecDepth 100000 in
theorem b_L_excess_3 : (fun (v1 : Int32) (v2 : Int32) (w2 : Int32) (M1 : Mem) => run C_L_excess 3 (10, [some (.ref 0), some (.int v1), some (.int v2), some (.ref 29), none], [], (sL M1 29 (ix (0 : Int32)) w2.toInt64), 2)) = (fun (v1 : Int32) (v2 : Int32) (w2 : Int32) (M1 : Mem) => some (.inr (.inl (some (.int (0 : Int32))), (sL M1 29 (ix (0 : Int32)) w2.toInt64), 2))) := by rfl
def d_L_excess (v1 : Int32) (v2 : Int32) (M : Mem) : Option (Res × Mem) := (onI (d_X7_excess v1 v2 M) (fun w2 M1 => (if inb (0 : Int32) 1 = true then some (.inl (some (.int (0 : Int32))), (sL M1 29 (ix (0 : Int32)) w2.toInt64)) else none)) (fun r => match r.1 with | .inr E => if E = "java/lang/IndexOutOfBoundsException" then some (.inl (some (.int (1 : Int32))), r.2) else none | _ => none))
set_option maxHeartbeats 2000000 in
theorem r_L_excess (v1 : Int32) (v2 : Int32) (M : Mem) : RG C_L_excess (0, [some (.ref 0), some (.int v1), some (.int v2), some (.ref 29), none], [], M, 0) (d_L_excess v1 v2 M) (fun r => .inr r) := by
  unfold d_L_excess
  refine RG.st 5 (congrFun (congrFun (congrFun b_L_excess_0 v1) v2) M) ?_
  refine RG.callI (fun w2 M1 h1 => RG.st 1 (run_callV (v := (some (.int w2))) rfl rfl rfl rfl rfl h1) ?_) (fun E M1 h1 => ?_)
  rotate_left
  · dsimp only
    refine RG.ite (fun h4 => RG.fin rfl (Rend.run 1 (run_callVh (r := (1 : Int32)) rfl rfl rfl rfl rfl h1 rfl (by rw [h4]; rfl)))) (fun h4 => ?_)
    exact RG.none
  · show RG C_L_excess (8, [some (.ref 0), some (.int v1), some (.int v2), some (.ref 29), none], [.int w2, .int (0 : Int32), .ref 29], M1, 2) _ _
    refine RG.st 1 (congrFun (congrFun (congrFun (congrFun b_L_excess_1 v1) v2) w2) M1) ?_
    refine RG.guard (fun h2 => RG.st 1 (stp_g h2 (congrFun (congrFun (congrFun (congrFun b_L_excess_2 v1) v2) w2) M1)) ?_)
    exact RG.fin rfl (Rend.run 3 (congrFun (congrFun (congrFun (congrFun b_L_excess_3 v1) v2) w2) M1))
def fn_L_excess : Fn := fun av M => match av with
  | [.ref r0, .int v1, .int v2, .ref r3] => bif Nat.beq r0 0 && Nat.beq r3 29 then (d_L_excess v1 v2 M) else (none)
  | _ => none
theorem cfg_L_excess : CfgOK RL cL_excess (C_L_excess) 8 := ⟨tk_L_excess, csF_nd, flk_L, (List.forall_mem_cons.mpr ⟨Or.inr ⟨yX7_excess, cX7_excess, 7, (some .int), none, 7, ok_X7_excess, by decide, by decide, w_code_Sumsetry_excess__II_I, w_initialized_Sumsetry, ⟨by decide, by decide⟩, Or.inr (Or.inr ⟨rfl, rfl, show (parseMethodDescriptor yX7_excess.desc).map (fun d => d.parameters.length + 1) = some 3 from by decide +kernel, w_methodLink_SumsetryLaw_54, w_instanceMethod_Sumsetry_excess__II_I, w_selects_Sumsetry_excess__II_I, ⟨_, rfl, rfl⟩⟩)⟩, fun _ h => absurd h List.not_mem_nil⟩), ink_L, lgk_L, fun e h => absurd h List.not_mem_nil, (List.forall_mem_cons.mpr ⟨⟨by decide, w_classLink_SumsetryLaw_19, by decide⟩, fun _ h => absurd h List.not_mem_nil⟩)⟩
theorem ok_L_excess : OkM csF yL_excess (Cond.codeWith yL_excess cL_excess 5 (some .int) [(0, 10, 13, 19)]) 8 2 fn_L_excess :=
  OkM_ofH (own := RL) (C := C_L_excess) (hh := [(0, 10, 13, 19)]) (by decide +kernel) rfl (cfg_L_excess) rfl rfl rfl rfl (by
    intro av M o M' h
    unfold fn_L_excess at h
    split at h
    · rename_i r0 v1 v2 r3
      rcases bif_cs h with ⟨hb, h⟩ | ⟨-, h⟩
      · simp only [Bool.and_eq_true] at hb
        obtain ⟨hr0, hr1⟩ := hb
        obtain rfl := Nat.eq_of_beq_eq_true hr0
        obtain rfl := Nat.eq_of_beq_eq_true hr1
        exact ⟨rfl, Nat.le_of_ble_eq_true rfl, (r_L_excess v1 v2 M) (o, M') h⟩
      · cases h
    · cases h)
def t_L_slack : List (Nat × Instr × Nat) := [(0, .aload 4, 2), (2, .iconst 0, 1), (3, .aload_n 0, 1), (4, .iload_n 1, 1), (5, .iload_n 2, 1), (6, .iload_n 3, 1), (7, .invokevirtual 57, 3), (10, .i2l, 1), (11, .lastore, 1), (12, .goto 7, 3), (15, .astore 5, 2), (17, .iconst 1, 1), (18, .ireturn, 1), (19, .iconst 0, 1), (20, .ireturn, 1)]
theorem tk_L_slack : ∀ x ∈ t_L_slack, decode cL_slack x.1 = .ok x.2 := by decide +kernel
def C_L_slack : Cfg := (t_L_slack, csF, fl_L, [(57, 2, 5, 4, 3, fn_X7_slack)], in_L, lg_L, [], [(0, 12, 15, 19, "java/lang/IndexOutOfBoundsException")], none, (some .int), 3)
set_option maxRecDepth 100000 in
theorem b_L_slack_0 : (fun (v1 : Int32) (v2 : Int32) (v3 : Int32) (M : Mem) => run C_L_slack 6 (0, [some (.ref 0), some (.int v1), some (.int v2), some (.int v3), some (.ref 29), none], [], M, 0)) = (fun (v1 : Int32) (v2 : Int32) (v3 : Int32) (M : Mem) => some (.inl (7, [some (.ref 0), some (.int v1), some (.int v2), some (.int v3), some (.ref 29), none], [.int v3, .int v2, .int v1, .ref 0, .int (0 : Int32), .ref 29], M, 0))) := by rfl
set_option maxRecDepth 100000 in
theorem b_L_slack_1 : (fun (v1 : Int32) (v2 : Int32) (v3 : Int32) (w2 : Int32) (M1 : Mem) => run C_L_slack 1 (10, [some (.ref 0), some (.int v1), some (.int v2), some (.int v3), some (.ref 29), none], [.int w2, .int (0 : Int32), .ref 29], M1, 3)) = (fun (v1 : Int32) (v2 : Int32) (v3 : Int32) (w2 : Int32) (M1 : Mem) => some (.inl (11, [some (.ref 0), some (.int v1), some (.int v2), some (.int v3), some (.ref 29), none], [.long w2.toInt64, .int (0 : Int32), .ref 29], M1, 3))) := by rfl
set_option maxRecDepth 100000 in
theorem b_L_slack_2 : (fun (v1 : Int32) (v2 : Int32) (v3 : Int32) (w2 : Int32) (M1 : Mem) => stp C_L_slack (11, [some (.ref 0), some (.int v1), some (.int v2), some (.int v3), some (.ref 29), none], [.long w2.toInt64, .int (0 : Int32), .ref 29], M1, 3)) = (fun (v1 : Int32) (v2 : Int32) (v3 : Int32) (w2 : Int32) (M1 : Mem) => (if inb (0 : Int32) 1 = true then some (.inl (12, [some (.ref 0), some (.int v1), some (.int v2), some (.int v3), some (.ref 29), none], [], (sL M1 29 (ix (0 : Int32)) w2.toInt64), 3)) else none)) := by rfl
set_option maxRecDepth 100000 in
theorem b_L_slack_3 : (fun (v1 : Int32) (v2 : Int32) (v3 : Int32) (w2 : Int32) (M1 : Mem) => run C_L_slack 3 (12, [some (.ref 0), some (.int v1), some (.int v2), some (.int v3), some (.ref 29), none], [], (sL M1 29 (ix (0 : Int32)) w2.toInt64), 3)) = (fun (v1 : Int32) (v2 : Int32) (v3 : Int32) (w2 : Int32) (M1 : Mem) => some (.inr (.inl (some (.int (0 : Int32))), (sL M1 29 (ix (0 : Int32)) w2.toInt64), 3))) := by rfl
def d_L_slack (v1 : Int32) (v2 : Int32) (v3 : Int32) (M : Mem) : Option (Res × Mem) := (onI (d_X7_slack v1 v2 v3 M) (fun w2 M1 => (if inb (0 : Int32) 1 = true then some (.inl (some (.int (0 : Int32))), (sL M1 29 (ix (0 : Int32)) w2.toInt64)) else none)) (fun r => match r.1 with | .inr E => if E = "java/lang/IndexOutOfBoundsException" then some (.inl (some (.int (1 : Int32))), r.2) else none | _ => none))
set_option maxHeartbeats 2000000 in
theorem r_L_slack (v1 : Int32) (v2 : Int32) (v3 : Int32) (M : Mem) : RG C_L_slack (0, [some (.ref 0), some (.int v1), some (.int v2), some (.int v3), some (.ref 29), none], [], M, 0) (d_L_slack v1 v2 v3 M) (fun r => .inr r) := by
  unfold d_L_slack
  refine RG.st 6 (congrFun (congrFun (congrFun (congrFun b_L_slack_0 v1) v2) v3) M) ?_
  refine RG.callI (fun w2 M1 h1 => RG.st 1 (run_callV (v := (some (.int w2))) rfl rfl rfl rfl rfl h1) ?_) (fun E M1 h1 => ?_)
  rotate_left
  · dsimp only
    refine RG.ite (fun h4 => RG.fin rfl (Rend.run 1 (run_callVh (r := (1 : Int32)) rfl rfl rfl rfl rfl h1 rfl (by rw [h4]; rfl)))) (fun h4 => ?_)
    exact RG.none
  · show RG C_L_slack (10, [some (.ref 0), some (.int v1), some (.int v2), some (.int v3), some (.ref 29), none], [.int w2, .int (0 : Int32), .ref 29], M1, 3) _ _
    refine RG.st 1 (congrFun (congrFun (congrFun (congrFun (congrFun b_L_slack_1 v1) v2) v3) w2) M1) ?_
    refine RG.guard (fun h2 => RG.st 1 (stp_g h2 (congrFun (congrFun (congrFun (congrFun (congrFun b_L_slack_2 v1) v2) v3) w2) M1)) ?_)
    exact RG.fin rfl (Rend.run 3 (congrFun (congrFun (congrFun (congrFun (congrFun b_L_slack_3 v1) v2) v3) w2) M1))
def fn_L_slack : Fn := fun av M => match av with
  | [.ref r0, .int v1, .int v2, .int v3, .ref r4] => bif Nat.beq r0 0 && Nat.beq r4 29 then (d_L_slack v1 v2 v3 M) else (none)
  | _ => none
theorem cfg_L_slack : CfgOK RL cL_slack (C_L_slack) 8 := ⟨tk_L_slack, csF_nd, flk_L, (List.forall_mem_cons.mpr ⟨Or.inr ⟨yX7_slack, cX7_slack, 10, (some .int), none, 7, ok_X7_slack, by decide, by decide, w_code_Sumsetry_slack__III_I, w_initialized_Sumsetry, ⟨by decide, by decide⟩, Or.inr (Or.inr ⟨rfl, rfl, show (parseMethodDescriptor yX7_slack.desc).map (fun d => d.parameters.length + 1) = some 4 from by decide +kernel, w_methodLink_SumsetryLaw_57, w_instanceMethod_Sumsetry_slack__III_I, w_selects_Sumsetry_slack__III_I, ⟨_, rfl, rfl⟩⟩)⟩, fun _ h => absurd h List.not_mem_nil⟩), ink_L, lgk_L, fun e h => absurd h List.not_mem_nil, (List.forall_mem_cons.mpr ⟨⟨by decide, w_classLink_SumsetryLaw_19, by decide⟩, fun _ h => absurd h List.not_mem_nil⟩)⟩
theorem ok_L_slack : OkM csF yL_slack (Cond.codeWith yL_slack cL_slack 6 (some .int) [(0, 12, 15, 19)]) 8 3 fn_L_slack :=
  OkM_ofH (own := RL) (C := C_L_slack) (hh := [(0, 12, 15, 19)]) (by decide +kernel) rfl (cfg_L_slack) rfl rfl rfl rfl (by
    intro av M o M' h
    unfold fn_L_slack at h
    split at h
    · rename_i r0 v1 v2 v3 r4
      rcases bif_cs h with ⟨hb, h⟩ | ⟨-, h⟩
      · simp only [Bool.and_eq_true] at hb
        obtain ⟨hr0, hr1⟩ := hb
        obtain rfl := Nat.eq_of_beq_eq_true hr0
        obtain rfl := Nat.eq_of_beq_eq_true hr1
        exact ⟨rfl, Nat.le_of_ble_eq_true rfl, (r_L_slack v1 v2 v3 M) (o, M') h⟩
      · cases h
    · cases h)
