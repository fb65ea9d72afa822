/-! methods: L_cover, L_sums, L_order, L_essential, L_image, L_maps, L_keeps, L_greatest, L_greatestAnew, L_wins, L_put, L_constant, L_root -/
def t_L_cover : List (Nat × Instr × Nat) := [(0, .aload_n 3, 1), (1, .iconst 0, 1), (2, .aload_n 0, 1), (3, .iload_n 1, 1), (4, .iload_n 2, 1), (5, .invokevirtual 60, 3), (8, .lastore, 1), (9, .goto 7, 3), (12, .astore 4, 2), (14, .iconst 1, 1), (15, .ireturn, 1), (16, .iconst 0, 1), (17, .ireturn, 1)]
theorem tk_L_cover : ∀ x ∈ t_L_cover, decode cL_cover x.1 = .ok x.2 := by decide +kernel
def C_L_cover : Cfg := (t_L_cover, csF, fl_L, [(60, 2, 5, 3, 2, fn_X7_cover)], in_L, lg_L, [], [(0, 9, 12, 19, "java/lang/IndexOutOfBoundsException")], none, (some .int), 2)
set_option maxRecDepth 100000 in
theorem b_L_cover_0 : (fun (v1 : Int32) (v2 : Int32) (M : Mem) => run C_L_cover 5 (0, [some (.ref 0), some (.int v1), some (.int v2), some (.ref 29), none], [], M, 0)) = (fun (v1 : Int32) (v2 : Int32) (M : Mem) => some (.inl (5, [some (.ref 0), some (.int v1), some (.int v2), some (.ref 29), none], [.int v2, .int v1, .ref 0, .int (0 : Int32), .ref 29], M, 0))) := by rfl
set_option maxRecDepth 100000 in
theorem b_L_cover_1 : (fun (v1 : Int32) (v2 : Int32) (w2 : Int64) (M1 : Mem) => stp C_L_cover (8, [some (.ref 0), some (.int v1), some (.int v2), some (.ref 29), none], [.long w2, .int (0 : Int32), .ref 29], M1, 2)) = (fun (v1 : Int32) (v2 : Int32) (w2 : Int64) (M1 : Mem) => (if inb (0 : Int32) 1 = true then some (.inl (9, [some (.ref 0), some (.int v1), some (.int v2), some (.ref 29), none], [], (sL M1 29 (ix (0 : Int32)) w2), 2)) else none)) := by rfl
set_option maxRecDepth 100000 in
theorem b_L_cover_2 : (fun (v1 : Int32) (v2 : Int32) (w2 : Int64) (M1 : Mem) => run C_L_cover 3 (9, [some (.ref 0), some (.int v1), some (.int v2), some (.ref 29), none], [], (sL M1 29 (ix (0 : Int32)) w2), 2)) = (fun (v1 : Int32) (v2 : Int32) (w2 : Int64) (M1 : Mem) => some (.inr (.inl (some (.int (0 : Int32))), (sL M1 29 (ix (0 : Int32)) w2), 2))) := by rfl
def d_L_cover (v1 : Int32) (v2 : Int32) (M : Mem) : Option (Res × Mem) := (onL (d_X7_cover v1 v2 M) (fun w2 M1 => (if inb (0 : Int32) 1 = true then some (.inl (some (.int (0 : Int32))), (sL M1 29 (ix (0 : Int32)) w2)) else none)) (fun r => match r.1 with | .inr E => if E = "java/lang/IndexOutOfBoundsException" then some (.inl (some (.int (1 : Int32))), r.2) else none | _ => none))
set_option maxHeartbeats 2000000 in
theorem r_L_cover (v1 : Int32) (v2 : Int32) (M : Mem) : RG C_L_cover (0, [some (.ref 0), some (.int v1), some (.int v2), some (.ref 29), none], [], M, 0) (d_L_cover v1 v2 M) (fun r => .inr r) := by
  unfold d_L_cover
  refine RG.st 5 (congrFun (congrFun (congrFun b_L_cover_0 v1) v2) M) ?_
  refine RG.callL (fun w2 M1 h1 => RG.st 1 (run_callV (v := (some (.long w2))) rfl rfl rfl rfl rfl h1) ?_) (fun E M1 h1 => ?_)
  rotate_left
  · dsimp only
    refine RG.ite (fun h4 => RG.fin rfl (Rend.run 1 (run_callVh (r := (1 : Int32)) rfl rfl rfl rfl rfl h1 rfl (by rw [h4]; rfl)))) (fun h4 => ?_)
    exact RG.none
  · show RG C_L_cover (8, [some (.ref 0), some (.int v1), some (.int v2), some (.ref 29), none], [.long w2, .int (0 : Int32), .ref 29], M1, 2) _ _
    refine RG.guard (fun h2 => RG.st 1 (stp_g h2 (congrFun (congrFun (congrFun (congrFun b_L_cover_1 v1) v2) w2) M1)) ?_)
    exact RG.fin rfl (Rend.run 3 (congrFun (congrFun (congrFun (congrFun b_L_cover_2 v1) v2) w2) M1))
def fn_L_cover : Fn := fun av M => match av with
  | [.ref r0, .int v1, .int v2, .ref r3] => bif Nat.beq r0 0 && Nat.beq r3 29 then (d_L_cover v1 v2 M) else (none)
  | _ => none
theorem cfg_L_cover : CfgOK RL cL_cover (C_L_cover) 8 := ⟨tk_L_cover, csF_nd, flk_L, (List.forall_mem_cons.mpr ⟨Or.inr ⟨yX7_cover, cX7_cover, 10, (some .long), none, 7, ok_X7_cover, by decide, by decide, w_code_Sumsetry_cover__II_J, w_initialized_Sumsetry, ⟨by decide, by decide⟩, Or.inr (Or.inr ⟨rfl, rfl, show (parseMethodDescriptor yX7_cover.desc).map (fun d => d.parameters.length + 1) = some 3 from by decide +kernel, w_methodLink_SumsetryLaw_60, w_instanceMethod_Sumsetry_cover__II_J, w_selects_Sumsetry_cover__II_J, ⟨_, rfl, rfl⟩⟩)⟩, fun _ h => absurd h List.not_mem_nil⟩), ink_L, lgk_L, fun e h => absurd h List.not_mem_nil, (List.forall_mem_cons.mpr ⟨⟨by decide, w_classLink_SumsetryLaw_19, by decide⟩, fun _ h => absurd h List.not_mem_nil⟩)⟩
theorem ok_L_cover : OkM csF yL_cover (Cond.codeWith yL_cover cL_cover 5 (some .int) [(0, 9, 12, 19)]) 8 2 fn_L_cover :=
  OkM_ofH (own := RL) (C := C_L_cover) (hh := [(0, 9, 12, 19)]) (by decide +kernel) rfl (cfg_L_cover) rfl rfl rfl rfl (by
    intro av M o M' h
    unfold fn_L_cover at h
    split at h
    · rename_i r0 v1 v2 r3
      rcases bif_cs h with ⟨hb, h⟩ | ⟨-, h⟩
      · simp only [Bool.and_eq_true] at hb
        obtain ⟨hr0, hr1⟩ := hb
        obtain rfl := Nat.eq_of_beq_eq_true hr0
        obtain rfl := Nat.eq_of_beq_eq_true hr1
        exact ⟨rfl, Nat.le_of_ble_eq_true rfl, (r_L_cover v1 v2 M) (o, M') h⟩
      · cases h
    · cases h)
def t_L_sums : List (Nat × Instr × Nat) := [(0, .aload_n 3, 1), (1, .iconst 0, 1), (2, .aload_n 0, 1), (3, .iload_n 1, 1), (4, .iload_n 2, 1), (5, .invokevirtual 64, 3), (8, .lastore, 1), (9, .goto 11, 3), (12, .astore 4, 2), (14, .iconst 1, 1), (15, .ireturn, 1), (16, .astore 4, 2), (18, .iconst 2, 1), (19, .ireturn, 1), (20, .iconst 0, 1), (21, .ireturn, 1)]
theorem tk_L_sums : ∀ x ∈ t_L_sums, decode cL_sums x.1 = .ok x.2 := by decide +kernel
def C_L_sums : Cfg := (t_L_sums, csF, fl_L, [(64, 2, 5, 3, 2, fn_X7_sums)], in_L, lg_L, [], [(0, 9, 12, 19, "java/lang/IndexOutOfBoundsException"), (0, 9, 16, 13, "java/lang/IllegalArgumentException")], none, (some .int), 2)
set_option maxRecDepth 100000 in
theorem b_L_sums_0 : (fun (v1 : Int32) (v2 : Int32) (M : Mem) => run C_L_sums 5 (0, [some (.ref 0), some (.int v1), some (.int v2), some (.ref 29), none], [], M, 0)) = (fun (v1 : Int32) (v2 : Int32) (M : Mem) => some (.inl (5, [some (.ref 0), some (.int v1), some (.int v2), some (.ref 29), none], [.int v2, .int v1, .ref 0, .int (0 : Int32), .ref 29], M, 0))) := by rfl
set_option maxRecDepth 100000 in
theorem b_L_sums_1 : (fun (v1 : Int32) (v2 : Int32) (w2 : Int64) (M1 : Mem) => stp C_L_sums (8, [some (.ref 0), some (.int v1), some (.int v2), some (.ref 29), none], [.long w2, .int (0 : Int32), .ref 29], M1, 2)) = (fun (v1 : Int32) (v2 : Int32) (w2 : Int64) (M1 : Mem) => (if inb (0 : Int32) 1 = true then some (.inl (9, [some (.ref 0), some (.int v1), some (.int v2), some (.ref 29), none], [], (sL M1 29 (ix (0 : Int32)) w2), 2)) else none)) := by rfl
set_option maxRecDepth 100000 in
theorem b_L_sums_2 : (fun (v1 : Int32) (v2 : Int32) (w2 : Int64) (M1 : Mem) => run C_L_sums 3 (9, [some (.ref 0), some (.int v1), some (.int v2), some (.ref 29), none], [], (sL M1 29 (ix (0 : Int32)) w2), 2)) = (fun (v1 : Int32) (v2 : Int32) (w2 : Int64) (M1 : Mem) => some (.inr (.inl (some (.int (0 : Int32))), (sL M1 29 (ix (0 : Int32)) w2), 2))) := by rfl
def d_L_sums (v1 : Int32) (v2 : Int32) (M : Mem) : Option (Res × Mem) := (onL (d_X7_sums v1 v2 M) (fun w2 M1 => (if inb (0 : Int32) 1 = true then some (.inl (some (.int (0 : Int32))), (sL M1 29 (ix (0 : Int32)) w2)) else none)) (fun r => match r.1 with | .inr E => if E = "java/lang/IndexOutOfBoundsException" then some (.inl (some (.int (1 : Int32))), r.2) else if E = "java/lang/IllegalArgumentException" then some (.inl (some (.int (2 : Int32))), r.2) else none | _ => none))
set_option maxHeartbeats 2000000 in
theorem r_L_sums (v1 : Int32) (v2 : Int32) (M : Mem) : RG C_L_sums (0, [some (.ref 0), some (.int v1), some (.int v2), some (.ref 29), none], [], M, 0) (d_L_sums v1 v2 M) (fun r => .inr r) := by
  unfold d_L_sums
  refine RG.st 5 (congrFun (congrFun (congrFun b_L_sums_0 v1) v2) M) ?_
  refine RG.callL (fun w2 M1 h1 => RG.st 1 (run_callV (v := (some (.long w2))) rfl rfl rfl rfl rfl h1) ?_) (fun E M1 h1 => ?_)
  rotate_left
  · dsimp only
    refine RG.ite (fun h4 => RG.fin rfl (Rend.run 1 (run_callVh (r := (1 : Int32)) rfl rfl rfl rfl rfl h1 rfl (by rw [h4]; rfl)))) (fun h4 => ?_)
    refine RG.ite (fun h5 => RG.fin rfl (Rend.run 1 (run_callVh (r := (2 : Int32)) rfl rfl rfl rfl rfl h1 rfl (by rw [h5]; rfl)))) (fun h5 => ?_)
    exact RG.none
  · show RG C_L_sums (8, [some (.ref 0), some (.int v1), some (.int v2), some (.ref 29), none], [.long w2, .int (0 : Int32), .ref 29], M1, 2) _ _
    refine RG.guard (fun h2 => RG.st 1 (stp_g h2 (congrFun (congrFun (congrFun (congrFun b_L_sums_1 v1) v2) w2) M1)) ?_)
    exact RG.fin rfl (Rend.run 3 (congrFun (congrFun (congrFun (congrFun b_L_sums_2 v1) v2) w2) M1))
def fn_L_sums : Fn := fun av M => match av with
  | [.ref r0, .int v1, .int v2, .ref r3] => bif Nat.beq r0 0 && Nat.beq r3 29 then (d_L_sums v1 v2 M) else (none)
  | _ => none
theorem cfg_L_sums : CfgOK RL cL_sums (C_L_sums) 8 := ⟨tk_L_sums, csF_nd, flk_L, (List.forall_mem_cons.mpr ⟨Or.inr ⟨yX7_sums, cX7_sums, 6, (some .long), none, 7, ok_X7_sums, by decide, by decide, w_code_Sumsetry_sums__II_J, w_initialized_Sumsetry, ⟨by decide, by decide⟩, Or.inr (Or.inr ⟨rfl, rfl, show (parseMethodDescriptor yX7_sums.desc).map (fun d => d.parameters.length + 1) = some 3 from by decide +kernel, w_methodLink_SumsetryLaw_64, w_instanceMethod_Sumsetry_sums__II_J, w_selects_Sumsetry_sums__II_J, ⟨_, rfl, rfl⟩⟩)⟩, fun _ h => absurd h List.not_mem_nil⟩), ink_L, lgk_L, fun e h => absurd h List.not_mem_nil, (List.forall_mem_cons.mpr ⟨⟨by decide, w_classLink_SumsetryLaw_19, by decide⟩, List.forall_mem_cons.mpr ⟨⟨by decide, w_classLink_SumsetryLaw_13, by decide⟩, fun _ h => absurd h List.not_mem_nil⟩⟩)⟩
theorem ok_L_sums : OkM csF yL_sums (Cond.codeWith yL_sums cL_sums 5 (some .int) [(0, 9, 12, 19), (0, 9, 16, 13)]) 8 2 fn_L_sums :=
  OkM_ofH (own := RL) (C := C_L_sums) (hh := [(0, 9, 12, 19), (0, 9, 16, 13)]) (by decide +kernel) rfl (cfg_L_sums) rfl rfl rfl rfl (by
    intro av M o M' h
    unfold fn_L_sums at h
    split at h
    · rename_i r0 v1 v2 r3
      rcases bif_cs h with ⟨hb, h⟩ | ⟨-, h⟩
      · simp only [Bool.and_eq_true] at hb
        obtain ⟨hr0, hr1⟩ := hb
        obtain rfl := Nat.eq_of_beq_eq_true hr0
        obtain rfl := Nat.eq_of_beq_eq_true hr1
        exact ⟨rfl, Nat.le_of_ble_eq_true rfl, (r_L_sums v1 v2 M) (o, M') h⟩
      · cases h
    · cases h)
def t_L_order : List (Nat × Instr × Nat) := [(0, .aload_n 2, 1), (1, .iconst 0, 1), (2, .aload_n 0, 1), (3, .iload_n 1, 1), (4, .invokevirtual 67, 3), (7, .i2l, 1), (8, .lastore, 1), (9, .goto 6, 3), (12, .astore_n 3, 1), (13, .iconst 1, 1), (14, .ireturn, 1), (15, .iconst 0, 1), (16, .ireturn, 1)]
theorem tk_L_order : ∀ x ∈ t_L_order, decode cL_order x.1 = .ok x.2 := by decide +kernel
def C_L_order : Cfg := (t_L_order, csF, fl_L, [(67, 2, 5, 2, 1, fn_X7_order)], in_L, lg_L, [], [(0, 9, 12, 19, "java/lang/IndexOutOfBoundsException")], none, (some .int), 1)
set_option maxRecDepth 100000 in
theorem b_L_order_0 : (fun (v1 : Int32) (M : Mem) => run C_L_order 4 (0, [some (.ref 0), some (.int v1), some (.ref 29), none], [], M, 0)) = (fun (v1 : Int32) (M : Mem) => some (.inl (4, [some (.ref 0), some (.int v1), some (.ref 29), none], [.int v1, .ref 0, .int (0 : Int32), .ref 29], M, 0))) := by rfl
set_option maxRecDepth 100000 in
theorem b_L_order_1 : (fun (v1 : Int32) (w2 : Int32) (M1 : Mem) => run C_L_order 1 (7, [some (.ref 0), some (.int v1), some (.ref 29), none], [.int w2, .int (0 : Int32), .ref 29], M1, 1)) = (fun (v1 : Int32) (w2 : Int32) (M1 : Mem) => some (.inl (8, [some (.ref 0), some (.int v1), some (.ref 29), none], [.long w2.toInt64, .int (0 : Int32), .ref 29], M1, 1))) := by rfl
set_option maxRecDepth 100000 in
theorem b_L_order_2 : (fun (v1 : Int32) (w2 : Int32) (M1 : Mem) => stp C_L_order (8, [some (.ref 0), some (.int v1), some (.ref 29), none], [.long w2.toInt64, .int (0 : Int32), .ref 29], M1, 1)) = (fun (v1 : Int32) (w2 : Int32) (M1 : Mem) => (if inb (0 : Int32) 1 = true then some (.inl (9, [some (.ref 0), some (.int v1), some (.ref 29), none], [], (sL M1 29 (ix (0 : Int32)) w2.toInt64), 1)) else none)) := by rfl
set_option maxRecDepth 100000 in
theorem b_L_order_3 : (fun (v1 : Int32) (w2 : Int32) (M1 : Mem) => run C_L_order 3 (9, [some (.ref 0), some (.int v1), some (.ref 29), none], [], (sL M1 29 (ix (0 : Int32)) w2.toInt64), 1)) = (fun (v1 : Int32) (w2 : Int32) (M1 : Mem) => some (.inr (.inl (some (.int (0 : Int32))), (sL M1 29 (ix (0 : Int32)) w2.toInt64), 1))) := by rfl
def d_L_order (v1 : Int32) (M : Mem) : Option (Res × Mem) := (onI (d_X7_order v1 M) (fun w2 M1 => (if inb (0 : Int32) 1 = true then some (.inl (some (.int (0 : Int32))), (sL M1 29 (ix (0 : Int32)) w2.toInt64)) else none)) (fun r => match r.1 with | .inr E => if E = "java/lang/IndexOutOfBoundsException" then some (.inl (some (.int (1 : Int32))), r.2) else none | _ => none))
set_option maxHeartbeats 2000000 in
theorem r_L_order (v1 : Int32) (M : Mem) : RG C_L_order (0, [some (.ref 0), some (.int v1), some (.ref 29), none], [], M, 0) (d_L_order v1 M) (fun r => .inr r) := by
  unfold d_L_order
  refine RG.st 4 (congrFun (congrFun b_L_order_0 v1) M) ?_
  refine RG.callI (fun w2 M1 h1 => RG.st 1 (run_callV (v := (some (.int w2))) rfl rfl rfl rfl rfl h1) ?_) (fun E M1 h1 => ?_)
  rotate_left
  · dsimp only
    refine RG.ite (fun h4 => RG.fin rfl (Rend.run 1 (run_callVh (r := (1 : Int32)) rfl rfl rfl rfl rfl h1 rfl (by rw [h4]; rfl)))) (fun h4 => ?_)
    exact RG.none
  · show RG C_L_order (7, [some (.ref 0), some (.int v1), some (.ref 29), none], [.int w2, .int (0 : Int32), .ref 29], M1, 1) _ _
    refine RG.st 1 (congrFun (congrFun (congrFun b_L_order_1 v1) w2) M1) ?_
    refine RG.guard (fun h2 => RG.st 1 (stp_g h2 (congrFun (congrFun (congrFun b_L_order_2 v1) w2) M1)) ?_)
    exact RG.fin rfl (Rend.run 3 (congrFun (congrFun (congrFun b_L_order_3 v1) w2) M1))
def fn_L_order : Fn := fun av M => match av with
  | [.ref r0, .int v1, .ref r2] => bif Nat.beq r0 0 && Nat.beq r2 29 then (d_L_order v1 M) else (none)
  | _ => none
theorem cfg_L_order : CfgOK RL cL_order (C_L_order) 8 := ⟨tk_L_order, csF_nd, flk_L, (List.forall_mem_cons.mpr ⟨Or.inr ⟨yX7_order, cX7_order, 2, (some .int), none, 7, ok_X7_order, by decide, by decide, w_code_Sumsetry_order__I_I, w_initialized_Sumsetry, ⟨by decide, by decide⟩, Or.inr (Or.inr ⟨rfl, rfl, show (parseMethodDescriptor yX7_order.desc).map (fun d => d.parameters.length + 1) = some 2 from by decide +kernel, w_methodLink_SumsetryLaw_67, w_instanceMethod_Sumsetry_order__I_I, w_selects_Sumsetry_order__I_I, ⟨_, rfl, rfl⟩⟩)⟩, fun _ h => absurd h List.not_mem_nil⟩), ink_L, lgk_L, fun e h => absurd h List.not_mem_nil, (List.forall_mem_cons.mpr ⟨⟨by decide, w_classLink_SumsetryLaw_19, by decide⟩, fun _ h => absurd h List.not_mem_nil⟩)⟩
theorem ok_L_order : OkM csF yL_order (Cond.codeWith yL_order cL_order 4 (some .int) [(0, 9, 12, 19)]) 8 1 fn_L_order :=
  OkM_ofH (own := RL) (C := C_L_order) (hh := [(0, 9, 12, 19)]) (by decide +kernel) rfl (cfg_L_order) rfl rfl rfl rfl (by
    intro av M o M' h
    unfold fn_L_order at h
    split at h
    · rename_i r0 v1 r2
      rcases bif_cs h with ⟨hb, h⟩ | ⟨-, h⟩
      · simp only [Bool.and_eq_true] at hb
        obtain ⟨hr0, hr1⟩ := hb
        obtain rfl := Nat.eq_of_beq_eq_true hr0
        obtain rfl := Nat.eq_of_beq_eq_true hr1
        exact ⟨rfl, Nat.le_of_ble_eq_true rfl, (r_L_order v1 M) (o, M') h⟩
      · cases h
    · cases h)
def t_L_essential : List (Nat × Instr × Nat) := [(0, .aload_n 2, 1), (1, .iconst 0, 1), (2, .aload_n 0, 1), (3, .iload_n 1, 1), (4, .invokevirtual 71, 3), (7, .lastore, 1), (8, .goto 6, 3), (11, .astore_n 3, 1), (12, .iconst 1, 1), (13, .ireturn, 1), (14, .iconst 0, 1), (15, .ireturn, 1)]
theorem tk_L_essential : ∀ x ∈ t_L_essential, decode cL_essential x.1 = .ok x.2 := by decide +kernel
def C_L_essential : Cfg := (t_L_essential, csF, fl_L, [(71, 2, 5, 2, 1, fn_X7_essential)], in_L, lg_L, [], [(0, 8, 11, 19, "java/lang/IndexOutOfBoundsException")], none, (some .int), 1)
set_option maxRecDepth 100000 in
theorem b_L_essential_0 : (fun (v1 : Int32) (M : Mem) => run C_L_essential 4 (0, [some (.ref 0), some (.int v1), some (.ref 29), none], [], M, 0)) = (fun (v1 : Int32) (M : Mem) => some (.inl (4, [some (.ref 0), some (.int v1), some (.ref 29), none], [.int v1, .ref 0, .int (0 : Int32), .ref 29], M, 0))) := by rfl
set_option maxRecDepth 100000 in
theorem b_L_essential_1 : (fun (v1 : Int32) (w2 : Int64) (M1 : Mem) => stp C_L_essential (7, [some (.ref 0), some (.int v1), some (.ref 29), none], [.long w2, .int (0 : Int32), .ref 29], M1, 1)) = (fun (v1 : Int32) (w2 : Int64) (M1 : Mem) => (if inb (0 : Int32) 1 = true then some (.inl (8, [some (.ref 0), some (.int v1), some (.ref 29), none], [], (sL M1 29 (ix (0 : Int32)) w2), 1)) else none)) := by rfl
set_option maxRecDepth 100000 in
theorem b_L_essential_2 : (fun (v1 : Int32) (w2 : Int64) (M1 : Mem) => run C_L_essential 3 (8, [some (.ref 0), some (.int v1), some (.ref 29), none], [], (sL M1 29 (ix (0 : Int32)) w2), 1)) = (fun (v1 : Int32) (w2 : Int64) (M1 : Mem) => some (.inr (.inl (some (.int (0 : Int32))), (sL M1 29 (ix (0 : Int32)) w2), 1))) := by rfl
def d_L_essential (v1 : Int32) (M : Mem) : Option (Res × Mem) := (onL (d_X7_essential v1 M) (fun w2 M1 => (if inb (0 : Int32) 1 = true then some (.inl (some (.int (0 : Int32))), (sL M1 29 (ix (0 : Int32)) w2)) else none)) (fun r => match r.1 with | .inr E => if E = "java/lang/IndexOutOfBoundsException" then some (.inl (some (.int (1 : Int32))), r.2) else none | _ => none))
set_option maxHeartbeats 2000000 in
theorem r_L_essential (v1 : Int32) (M : Mem) : RG C_L_essential (0, [some (.ref 0), some (.int v1), some (.ref 29), none], [], M, 0) (d_L_essential v1 M) (fun r => .inr r) := by
  unfold d_L_essential
  refine RG.st 4 (congrFun (congrFun b_L_essential_0 v1) M) ?_
  refine RG.callL (fun w2 M1 h1 => RG.st 1 (run_callV (v := (some (.long w2))) rfl rfl rfl rfl rfl h1) ?_) (fun E M1 h1 => ?_)
  rotate_left
  · dsimp only
    refine RG.ite (fun h4 => RG.fin rfl (Rend.run 1 (run_callVh (r := (1 : Int32)) rfl rfl rfl rfl rfl h1 rfl (by rw [h4]; rfl)))) (fun h4 => ?_)
    exact RG.none
  · show RG C_L_essential (7, [some (.ref 0), some (.int v1), some (.ref 29), none], [.long w2, .int (0 : Int32), .ref 29], M1, 1) _ _
    refine RG.guard (fun h2 => RG.st 1 (stp_g h2 (congrFun (congrFun (congrFun b_L_essential_1 v1) w2) M1)) ?_)
    exact RG.fin rfl (Rend.run 3 (congrFun (congrFun (congrFun b_L_essential_2 v1) w2) M1))
def fn_L_essential : Fn := fun av M => match av with
  | [.ref r0, .int v1, .ref r2] => bif Nat.beq r0 0 && Nat.beq r2 29 then (d_L_essential v1 M) else (none)
  | _ => none
theorem cfg_L_essential : CfgOK RL cL_essential (C_L_essential) 8 := ⟨tk_L_essential, csF_nd, flk_L, (List.forall_mem_cons.mpr ⟨Or.inr ⟨yX7_essential, cX7_essential, 7, (some .long), none, 7, ok_X7_essential, by decide, by decide, w_code_Sumsetry_essential__I_J, w_initialized_Sumsetry, ⟨by decide, by decide⟩, Or.inr (Or.inr ⟨rfl, rfl, show (parseMethodDescriptor yX7_essential.desc).map (fun d => d.parameters.length + 1) = some 2 from by decide +kernel, w_methodLink_SumsetryLaw_71, w_instanceMethod_Sumsetry_essential__I_J, w_selects_Sumsetry_essential__I_J, ⟨_, rfl, rfl⟩⟩)⟩, fun _ h => absurd h List.not_mem_nil⟩), ink_L, lgk_L, fun e h => absurd h List.not_mem_nil, (List.forall_mem_cons.mpr ⟨⟨by decide, w_classLink_SumsetryLaw_19, by decide⟩, fun _ h => absurd h List.not_mem_nil⟩)⟩
theorem ok_L_essential : OkM csF yL_essential (Cond.codeWith yL_essential cL_essential 4 (some .int) [(0, 8, 11, 19)]) 8 1 fn_L_essential :=
  OkM_ofH (own := RL) (C := C_L_essential) (hh := [(0, 8, 11, 19)]) (by decide +kernel) rfl (cfg_L_essential) rfl rfl rfl rfl (by
    intro av M o M' h
    unfold fn_L_essential at h
    split at h
    · rename_i r0 v1 r2
      rcases bif_cs h with ⟨hb, h⟩ | ⟨-, h⟩
      · simp only [Bool.and_eq_true] at hb
        obtain ⟨hr0, hr1⟩ := hb
        obtain rfl := Nat.eq_of_beq_eq_true hr0
        obtain rfl := Nat.eq_of_beq_eq_true hr1
        exact ⟨rfl, Nat.le_of_ble_eq_true rfl, (r_L_essential v1 M) (o, M') h⟩
      · cases h
    · cases h)
def t_L_image : List (Nat × Instr × Nat) := [(0, .aload 5, 2), (2, .iconst 0, 1), (3, .aload_n 0, 1), (4, .iload_n 1, 1), (5, .iload_n 2, 1), (6, .iload_n 3, 1), (7, .iload 4, 2), (9, .invokevirtual 74, 3), (12, .i2l, 1), (13, .lastore, 1), (14, .goto 15, 3), (17, .astore 6, 2), (19, .iconst 1, 1), (20, .ireturn, 1), (21, .astore 6, 2), (23, .iconst 2, 1), (24, .ireturn, 1), (25, .astore 6, 2), (27, .iconst 3, 1), (28, .ireturn, 1), (29, .iconst 0, 1), (30, .ireturn, 1)]
theorem tk_L_image : ∀ x ∈ t_L_image, decode cL_image x.1 = .ok x.2 := by decide +kernel
def C_L_image : Cfg := (t_L_image, csF, fl_L, [(74, 2, 5, 5, 4, fn_X7_image)], in_L, lg_L, [], [(0, 14, 17, 19, "java/lang/IndexOutOfBoundsException"), (0, 14, 21, 13, "java/lang/IllegalArgumentException"), (0, 14, 25, 25, "java/lang/IllegalStateException")], none, (some .int), 4)
set_option maxRecDepth 100000 in
theorem b_L_image_0 : (fun (v1 : Int32) (v2 : Int32) (v3 : Int32) (v4 : Int32) (M : Mem) => run C_L_image 7 (0, [some (.ref 0), some (.int v1), some (.int v2), some (.int v3), some (.int v4), some (.ref 29), none], [], M, 0)) = (fun (v1 : Int32) (v2 : Int32) (v3 : Int32) (v4 : Int32) (M : Mem) => some (.inl (9, [some (.ref 0), some (.int v1), some (.int v2), some (.int v3), some (.int v4), some (.ref 29), none], [.int v4, .int v3, .int v2, .int v1, .ref 0, .int (0 : Int32), .ref 29], M, 0))) := by rfl
set_option maxRecDepth 100000 in
theorem b_L_image_1 : (fun (v1 : Int32) (v2 : Int32) (v3 : Int32) (v4 : Int32) (w2 : Int32) (M1 : Mem) => run C_L_image 1 (12, [some (.ref 0), some (.int v1), some (.int v2), some (.int v3), some (.int v4), some (.ref 29), none], [.int w2, .int (0 : Int32), .ref 29], M1, 4)) = (fun (v1 : Int32) (v2 : Int32) (v3 : Int32) (v4 : Int32) (w2 : Int32) (M1 : Mem) => some (.inl (13, [some (.ref 0), some (.int v1), some (.int v2), some (.int v3), some (.int v4), some (.ref 29), none], [.long w2.toInt64, .int (0 : Int32), .ref 29], M1, 4))) := by rfl
set_option maxRecDepth 100000 in
theorem b_L_image_2 : (fun (v1 : Int32) (v2 : Int32) (v3 : Int32) (v4 : Int32) (w2 : Int32) (M1 : Mem) => stp C_L_image (13, [some (.ref 0), some (.int v1), some (.int v2), some (.int v3), some (.int v4), some (.ref 29), none], [.long w2.toInt64, .int (0 : Int32), .ref 29], M1, 4)) = (fun (v1 : Int32) (v2 : Int32) (v3 : Int32) (v4 : Int32) (w2 : Int32) (M1 : Mem) => (if inb (0 : Int32) 1 = true then some (.inl (14, [some (.ref 0), some (.int v1), some (.int v2), some (.int v3), some (.int v4), some (.ref 29), none], [], (sL M1 29 (ix (0 : Int32)) w2.toInt64), 4)) else none)) := by rfl
set_option maxRecDepth 100000 in
theorem b_L_image_3 : (fun (v1 : Int32) (v2 : Int32) (v3 : Int32) (v4 : Int32) (w2 : Int32) (M1 : Mem) => run C_L_image 3 (14, [some (.ref 0), some (.int v1), some (.int v2), some (.int v3), some (.int v4), some (.ref 29), none], [], (sL M1 29 (ix (0 : Int32)) w2.toInt64), 4)) = (fun (v1 : Int32) (v2 : Int32) (v3 : Int32) (v4 : Int32) (w2 : Int32) (M1 : Mem) => some (.inr (.inl (some (.int (0 : Int32))), (sL M1 29 (ix (0 : Int32)) w2.toInt64), 4))) := by rfl
def d_L_image (v1 : Int32) (v2 : Int32) (v3 : Int32) (v4 : Int32) (M : Mem) : Option (Res × Mem) := (onI (d_X7_image v1 v2 v3 v4 M) (fun w2 M1 => (if inb (0 : Int32) 1 = true then some (.inl (some (.int (0 : Int32))), (sL M1 29 (ix (0 : Int32)) w2.toInt64)) else none)) (fun r => match r.1 with | .inr E => if E = "java/lang/IndexOutOfBoundsException" then some (.inl (some (.int (1 : Int32))), r.2) else if E = "java/lang/IllegalArgumentException" then some (.inl (some (.int (2 : Int32))), r.2) else if E = "java/lang/IllegalStateException" then some (.inl (some (.int (3 : Int32))), r.2) else none | _ => none))
set_option maxHeartbeats 2000000 in
theorem r_L_image (v1 : Int32) (v2 : Int32) (v3 : Int32) (v4 : Int32) (M : Mem) : RG C_L_image (0, [some (.ref 0), some (.int v1), some (.int v2), some (.int v3), some (.int v4), some (.ref 29), none], [], M, 0) (d_L_image v1 v2 v3 v4 M) (fun r => .inr r) := by
  unfold d_L_image
  refine RG.st 7 (congrFun (congrFun (congrFun (congrFun (congrFun b_L_image_0 v1) v2) v3) v4) M) ?_
  refine RG.callI (fun w2 M1 h1 => RG.st 1 (run_callV (v := (some (.int w2))) rfl rfl rfl rfl rfl h1) ?_) (fun E M1 h1 => ?_)
  rotate_left
  · dsimp only
    refine RG.ite (fun h4 => RG.fin rfl (Rend.run 1 (run_callVh (r := (1 : Int32)) rfl rfl rfl rfl rfl h1 rfl (by rw [h4]; rfl)))) (fun h4 => ?_)
    refine RG.ite (fun h5 => RG.fin rfl (Rend.run 1 (run_callVh (r := (2 : Int32)) rfl rfl rfl rfl rfl h1 rfl (by rw [h5]; rfl)))) (fun h5 => ?_)
    refine RG.ite (fun h6 => RG.fin rfl (Rend.run 1 (run_callVh (r := (3 : Int32)) rfl rfl rfl rfl rfl h1 rfl (by rw [h6]; rfl)))) (fun h6 => ?_)
    exact RG.none
  · show RG C_L_image (12, [some (.ref 0), some (.int v1), some (.int v2), some (.int v3), some (.int v4), some (.ref 29), none], [.int w2, .int (0 : Int32), .ref 29], M1, 4) _ _
    refine RG.st 1 (congrFun (congrFun (congrFun (congrFun (congrFun (congrFun b_L_image_1 v1) v2) v3) v4) w2) M1) ?_
    refine RG.guard (fun h2 => RG.st 1 (stp_g h2 (congrFun (congrFun (congrFun (congrFun (congrFun (congrFun b_L_image_2 v1) v2) v3) v4) w2) M1)) ?_)
    exact RG.fin rfl (Rend.run 3 (congrFun (congrFun (congrFun (congrFun (congrFun (congrFun b_L_image_3 v1) v2) v3) v4) w2) M1))
def fn_L_image : Fn := fun av M => match av with
  | [.ref r0, .int v1, .int v2, .int v3, .int v4, .ref r5] => bif Nat.beq r0 0 && Nat.beq r5 29 then (d_L_image v1 v2 v3 v4 M) else (none)
  | _ => none
theorem cfg_L_image : CfgOK RL cL_image (C_L_image) 16 := ⟨tk_L_image, csF_nd, flk_L, (List.forall_mem_cons.mpr ⟨Or.inr ⟨yX7_image, cX7_image, 5, (some .int), none, 15, ok_X7_image, by decide, by decide, w_code_Sumsetry_image__IIII_I, w_initialized_Sumsetry, ⟨by decide, by decide⟩, Or.inr (Or.inr ⟨rfl, rfl, show (parseMethodDescriptor yX7_image.desc).map (fun d => d.parameters.length + 1) = some 5 from by decide +kernel, w_methodLink_SumsetryLaw_74, w_instanceMethod_Sumsetry_image__IIII_I, w_selects_Sumsetry_image__IIII_I, ⟨_, rfl, rfl⟩⟩)⟩, fun _ h => absurd h List.not_mem_nil⟩), ink_L, lgk_L, fun e h => absurd h List.not_mem_nil, (List.forall_mem_cons.mpr ⟨⟨by decide, w_classLink_SumsetryLaw_19, by decide⟩, List.forall_mem_cons.mpr ⟨⟨by decide, w_classLink_SumsetryLaw_13, by decide⟩, List.forall_mem_cons.mpr ⟨⟨by decide, w_classLink_SumsetryLaw_25, by decide⟩, fun _ h => absurd h List.not_mem_nil⟩⟩⟩)⟩
theorem ok_L_image : OkM csF yL_image (Cond.codeWith yL_image cL_image 7 (some .int) [(0, 14, 17, 19), (0, 14, 21, 13), (0, 14, 25, 25)]) 16 4 fn_L_image :=
  OkM_ofH (own := RL) (C := C_L_image) (hh := [(0, 14, 17, 19), (0, 14, 21, 13), (0, 14, 25, 25)]) (by decide +kernel) rfl (cfg_L_image) rfl rfl rfl rfl (by
    intro av M o M' h
    unfold fn_L_image at h
    split at h
    · rename_i r0 v1 v2 v3 v4 r5
      rcases bif_cs h with ⟨hb, h⟩ | ⟨-, h⟩
      · simp only [Bool.and_eq_true] at hb
        obtain ⟨hr0, hr1⟩ := hb
        obtain rfl := Nat.eq_of_beq_eq_true hr0
        obtain rfl := Nat.eq_of_beq_eq_true hr1
        exact ⟨rfl, Nat.le_of_ble_eq_true rfl, (r_L_image v1 v2 v3 v4 M) (o, M') h⟩
      · cases h
    · cases h)
def t_L_maps : List (Nat × Instr × Nat) := [(0, .aload 4, 2), (2, .iconst 0, 1), (3, .aload_n 0, 1), (4, .iload_n 1, 1), (5, .iload_n 2, 1), (6, .iload_n 3, 1), (7, .invokevirtual 78, 3), (10, .i2l, 1), (11, .lastore, 1), (12, .goto 15, 3), (15, .astore 5, 2), (17, .iconst 1, 1), (18, .ireturn, 1), (19, .astore 5, 2), (21, .iconst 2, 1), (22, .ireturn, 1), (23, .astore 5, 2), (25, .iconst 3, 1), (26, .ireturn, 1), (27, .iconst 0, 1), (28, .ireturn, 1)]
theorem tk_L_maps : ∀ x ∈ t_L_maps, decode cL_maps x.1 = .ok x.2 := by decide +kernel
def C_L_maps : Cfg := (t_L_maps, csF, fl_L, [(78, 2, 5, 4, 3, fn_X7_maps)], in_L, lg_L, [], [(0, 12, 15, 19, "java/lang/IndexOutOfBoundsException"), (0, 12, 19, 13, "java/lang/IllegalArgumentException"), (0, 12, 23, 25, "java/lang/IllegalStateException")], none, (some .int), 3)
set_option maxRecDepth 100000 in
theorem b_L_maps_0 : (fun (v1 : Int32) (v2 : Int32) (v3 : Int32) (M : Mem) => run C_L_maps 6 (0, [some (.ref 0), some (.int v1), some (.int v2), some (.int v3), some (.ref 29), none], [], M, 0)) = (fun (v1 : Int32) (v2 : Int32) (v3 : Int32) (M : Mem) => some (.inl (7, [some (.ref 0), some (.int v1), some (.int v2), some (.int v3), some (.ref 29), none], [.int v3, .int v2, .int v1, .ref 0, .int (0 : Int32), .ref 29], M, 0))) := by rfl
set_option maxRecDepth 100000 in
theorem b_L_maps_1 : (fun (v1 : Int32) (v2 : Int32) (v3 : Int32) (w2 : Int32) (M1 : Mem) => run C_L_maps 1 (10, [some (.ref 0), some (.int v1), some (.int v2), some (.int v3), some (.ref 29), none], [.int w2, .int (0 : Int32), .ref 29], M1, 3)) = (fun (v1 : Int32) (v2 : Int32) (v3 : Int32) (w2 : Int32) (M1 : Mem) => some (.inl (11, [some (.ref 0), some (.int v1), some (.int v2), some (.int v3), some (.ref 29), none], [.long w2.toInt64, .int (0 : Int32), .ref 29], M1, 3))) := by rfl
set_option maxRecDepth 100000 in
theorem b_L_maps_2 : (fun (v1 : Int32) (v2 : Int32) (v3 : Int32) (w2 : Int32) (M1 : Mem) => stp C_L_maps (11, [some (.ref 0), some (.int v1), some (.int v2), some (.int v3), some (.ref 29), none], [.long w2.toInt64, .int (0 : Int32), .ref 29], M1, 3)) = (fun (v1 : Int32) (v2 : Int32) (v3 : Int32) (w2 : Int32) (M1 : Mem) => (if inb (0 : Int32) 1 = true then some (.inl (12, [some (.ref 0), some (.int v1), some (.int v2), some (.int v3), some (.ref 29), none], [], (sL M1 29 (ix (0 : Int32)) w2.toInt64), 3)) else none)) := by rfl
set_option maxRecDepth 100000 in
theorem b_L_maps_3 : (fun (v1 : Int32) (v2 : Int32) (v3 : Int32) (w2 : Int32) (M1 : Mem) => run C_L_maps 3 (12, [some (.ref 0), some (.int v1), some (.int v2), some (.int v3), some (.ref 29), none], [], (sL M1 29 (ix (0 : Int32)) w2.toInt64), 3)) = (fun (v1 : Int32) (v2 : Int32) (v3 : Int32) (w2 : Int32) (M1 : Mem) => some (.inr (.inl (some (.int (0 : Int32))), (sL M1 29 (ix (0 : Int32)) w2.toInt64), 3))) := by rfl
def d_L_maps (v1 : Int32) (v2 : Int32) (v3 : Int32) (M : Mem) : Option (Res × Mem) := (onI (d_X7_maps v1 v2 v3 M) (fun w2 M1 => (if inb (0 : Int32) 1 = true then some (.inl (some (.int (0 : Int32))), (sL M1 29 (ix (0 : Int32)) w2.toInt64)) else none)) (fun r => match r.1 with | .inr E => if E = "java/lang/IndexOutOfBoundsException" then some (.inl (some (.int (1 : Int32))), r.2) else if E = "java/lang/IllegalArgumentException" then some (.inl (some (.int (2 : Int32))), r.2) else if E = "java/lang/IllegalStateException" then some (.inl (some (.int (3 : Int32))), r.2) else none | _ => none))
set_option maxHeartbeats 2000000 in
theorem r_L_maps (v1 : Int32) (v2 : Int32) (v3 : Int32) (M : Mem) : RG C_L_maps (0, [some (.ref 0), some (.int v1), some (.int v2), some (.int v3), some (.ref 29), none], [], M, 0) (d_L_maps v1 v2 v3 M) (fun r => .inr r) := by
  unfold d_L_maps
  refine RG.st 6 (congrFun (congrFun (congrFun (congrFun b_L_maps_0 v1) v2) v3) M) ?_
  refine RG.callI (fun w2 M1 h1 => RG.st 1 (run_callV (v := (some (.int w2))) rfl rfl rfl rfl rfl h1) ?_) (fun E M1 h1 => ?_)
  rotate_left
  · dsimp only
    refine RG.ite (fun h4 => RG.fin rfl (Rend.run 1 (run_callVh (r := (1 : Int32)) rfl rfl rfl rfl rfl h1 rfl (by rw [h4]; rfl)))) (fun h4 => ?_)
    refine RG.ite (fun h5 => RG.fin rfl (Rend.run 1 (run_callVh (r := (2 : Int32)) rfl rfl rfl rfl rfl h1 rfl (by rw [h5]; rfl)))) (fun h5 => ?_)
    refine RG.ite (fun h6 => RG.fin rfl (Rend.run 1 (run_callVh (r := (3 : Int32)) rfl rfl rfl rfl rfl h1 rfl (by rw [h6]; rfl)))) (fun h6 => ?_)
    exact RG.none
  · show RG C_L_maps (10, [some (.ref 0), some (.int v1), some (.int v2), some (.int v3), some (.ref 29), none], [.int w2, .int (0 : Int32), .ref 29], M1, 3) _ _
    refine RG.st 1 (congrFun (congrFun (congrFun (congrFun (congrFun b_L_maps_1 v1) v2) v3) w2) M1) ?_
    refine RG.guard (fun h2 => RG.st 1 (stp_g h2 (congrFun (congrFun (congrFun (congrFun (congrFun b_L_maps_2 v1) v2) v3) w2) M1)) ?_)
    exact RG.fin rfl (Rend.run 3 (congrFun (congrFun (congrFun (congrFun (congrFun b_L_maps_3 v1) v2) v3) w2) M1))
def fn_L_maps : Fn := fun av M => match av with
  | [.ref r0, .int v1, .int v2, .int v3, .ref r4] => bif Nat.beq r0 0 && Nat.beq r4 29 then (d_L_maps v1 v2 v3 M) else (none)
  | _ => none
theorem cfg_L_maps : CfgOK RL cL_maps (C_L_maps) 16 := ⟨tk_L_maps, csF_nd, flk_L, (List.forall_mem_cons.mpr ⟨Or.inr ⟨yX7_maps, cX7_maps, 4, (some .int), none, 15, ok_X7_maps, by decide, by decide, w_code_Sumsetry_maps__III_I, w_initialized_Sumsetry, ⟨by decide, by decide⟩, Or.inr (Or.inr ⟨rfl, rfl, show (parseMethodDescriptor yX7_maps.desc).map (fun d => d.parameters.length + 1) = some 4 from by decide +kernel, w_methodLink_SumsetryLaw_78, w_instanceMethod_Sumsetry_maps__III_I, w_selects_Sumsetry_maps__III_I, ⟨_, rfl, rfl⟩⟩)⟩, fun _ h => absurd h List.not_mem_nil⟩), ink_L, lgk_L, fun e h => absurd h List.not_mem_nil, (List.forall_mem_cons.mpr ⟨⟨by decide, w_classLink_SumsetryLaw_19, by decide⟩, List.forall_mem_cons.mpr ⟨⟨by decide, w_classLink_SumsetryLaw_13, by decide⟩, List.forall_mem_cons.mpr ⟨⟨by decide, w_classLink_SumsetryLaw_25, by decide⟩, fun _ h => absurd h List.not_mem_nil⟩⟩⟩)⟩
theorem ok_L_maps : OkM csF yL_maps (Cond.codeWith yL_maps cL_maps 6 (some .int) [(0, 12, 15, 19), (0, 12, 19, 13), (0, 12, 23, 25)]) 16 3 fn_L_maps :=
  OkM_ofH (own := RL) (C := C_L_maps) (hh := [(0, 12, 15, 19), (0, 12, 19, 13), (0, 12, 23, 25)]) (by decide +kernel) rfl (cfg_L_maps) rfl rfl rfl rfl (by
    intro av M o M' h
    unfold fn_L_maps at h
    split at h
    · rename_i r0 v1 v2 v3 r4
      rcases bif_cs h with ⟨hb, h⟩ | ⟨-, h⟩
      · simp only [Bool.and_eq_true] at hb
        obtain ⟨hr0, hr1⟩ := hb
        obtain rfl := Nat.eq_of_beq_eq_true hr0
        obtain rfl := Nat.eq_of_beq_eq_true hr1
        exact ⟨rfl, Nat.le_of_ble_eq_true rfl, (r_L_maps v1 v2 v3 M) (o, M') h⟩
      · cases h
    · cases h)
def t_L_keeps : List (Nat × Instr × Nat) := [(0, .aload_n 3, 1), (1, .iconst 0, 1), (2, .aload_n 0, 1), (3, .iload_n 1, 1), (4, .iload_n 2, 1), (5, .invokevirtual 81, 3), (8, .ifCond .eq 7, 3), (11, .lconst 1, 1), (12, .goto 4, 3), (15, .lconst 0, 1), (16, .lastore, 1), (17, .goto 7, 3), (20, .astore 4, 2), (22, .iconst 1, 1), (23, .ireturn, 1), (24, .iconst 0, 1), (25, .ireturn, 1)]
theorem tk_L_keeps : ∀ x ∈ t_L_keeps, decode cL_keeps x.1 = .ok x.2 := by decide +kernel
def C_L_keeps : Cfg := (t_L_keeps, csF, fl_L, [(81, 2, 5, 3, 2, fn_X7_keeps)], in_L, lg_L, [], [(0, 17, 20, 19, "java/lang/IndexOutOfBoundsException")], none, (some .int), 2)
set_option maxRecDepth 100000 in
theorem b_L_keeps_0 : (fun (v1 : Int32) (v2 : Int32) (M : Mem) => run C_L_keeps 5 (0, [some (.ref 0), some (.int v1), some (.int v2), some (.ref 29), none], [], M, 0)) = (fun (v1 : Int32) (v2 : Int32) (M : Mem) => some (.inl (5, [some (.ref 0), some (.int v1), some (.int v2), some (.ref 29), none], [.int v2, .int v1, .ref 0, .int (0 : Int32), .ref 29], M, 0))) := by rfl
set_option maxRecDepth 100000 in
theorem b_L_keeps_1 : (fun (v1 : Int32) (v2 : Int32) (w2 : Int32) (M1 : Mem) => run C_L_keeps 1 (8, [some (.ref 0), some (.int v1), some (.int v2), some (.ref 29), none], [.int w2, .int (0 : Int32), .ref 29], M1, 2)) = (fun (v1 : Int32) (v2 : Int32) (w2 : Int32) (M1 : Mem) => some (.inl ((br (decide (w2 = 0)) 8 3 (7)), [some (.ref 0), some (.int v1), some (.int v2), some (.ref 29), none], [.int (0 : Int32), .ref 29], M1, 2))) := by rfl
set_option maxRecDepth 100000 in
theorem b_L_keeps_2 : (fun (v1 : Int32) (v2 : Int32) (M1 : Mem) => run C_L_keeps 1 (15, [some (.ref 0), some (.int v1), some (.int v2), some (.ref 29), none], [.int (0 : Int32), .ref 29], M1, 2)) = (fun (v1 : Int32) (v2 : Int32) (M1 : Mem) => some (.inl (16, [some (.ref 0), some (.int v1), some (.int v2), some (.ref 29), none], [.long (0 : Int64), .int (0 : Int32), .ref 29], M1, 2))) := by rfl
set_option maxRecDepth 100000 in
theorem b_L_keeps_3 : (fun (v1 : Int32) (v2 : Int32) (M1 : Mem) => run C_L_keeps 2 (11, [some (.ref 0), some (.int v1), some (.int v2), some (.ref 29), none], [.int (0 : Int32), .ref 29], M1, 2)) = (fun (v1 : Int32) (v2 : Int32) (M1 : Mem) => some (.inl (16, [some (.ref 0), some (.int v1), some (.int v2), some (.ref 29), none], [.long (1 : Int64), .int (0 : Int32), .ref 29], M1, 2))) := by rfl
theorem m_L_keeps_0 (v1 : Int32) (v2 : Int32) (w2 : Int32) (M1 : Mem) : Rto C_L_keeps (8, [some (.ref 0), some (.int v1), some (.int v2), some (.ref 29), none], [.int w2, .int (0 : Int32), .ref 29], M1, 2) (16, [some (.ref 0), some (.int v1), some (.int v2), some (.ref 29), none], [.long (if w2 = 0 then (0 : Int64) else (1 : Int64)), .int (0 : Int32), .ref 29], M1, 2) := by
  refine Rto.trans (Rto.run 1 (congrFun (congrFun (congrFun (congrFun b_L_keeps_1 v1) v2) w2) M1)) ?_
  by_cases h : w2 = 0
  · refine Rto.trans (Rto.brT (q := 15) h rfl) ?_
    refine Rto.trans (Rto.run 1 (congrFun (congrFun (congrFun b_L_keeps_2 v1) v2) M1)) ?_
    exact Rto.eq (by first | (simp only [if_pos h]; done) | rfl | exact absurd rfl h | (simp; done))
  · refine Rto.trans (Rto.brF (q := 11) h rfl) ?_
    refine Rto.trans (Rto.run 2 (congrFun (congrFun (congrFun b_L_keeps_3 v1) v2) M1)) ?_
    exact Rto.eq (by first | (simp only [if_neg h]; done) | rfl | exact absurd rfl h | (simp; done))
set_option maxRecDepth 100000 in
theorem b_L_keeps_4 : (fun (v1 : Int32) (v2 : Int32) (w2 : Int32) (M1 : Mem) => stp C_L_keeps (16, [some (.ref 0), some (.int v1), some (.int v2), some (.ref 29), none], [.long (if w2 = 0 then (0 : Int64) else (1 : Int64)), .int (0 : Int32), .ref 29], M1, 2)) = (fun (v1 : Int32) (v2 : Int32) (w2 : Int32) (M1 : Mem) => (if inb (0 : Int32) 1 = true then some (.inl (17, [some (.ref 0), some (.int v1), some (.int v2), some (.ref 29), none], [], (sL M1 29 (ix (0 : Int32)) (if w2 = 0 then (0 : Int64) else (1 : Int64))), 2)) else none)) := by rfl
set_option maxRecDepth 100000 in
theorem b_L_keeps_5 : (fun (v1 : Int32) (v2 : Int32) (w2 : Int32) (M1 : Mem) => run C_L_keeps 3 (17, [some (.ref 0), some (.int v1), some (.int v2), some (.ref 29), none], [], (sL M1 29 (ix (0 : Int32)) (if w2 = 0 then (0 : Int64) else (1 : Int64))), 2)) = (fun (v1 : Int32) (v2 : Int32) (w2 : Int32) (M1 : Mem) => some (.inr (.inl (some (.int (0 : Int32))), (sL M1 29 (ix (0 : Int32)) (if w2 = 0 then (0 : Int64) else (1 : Int64))), 2))) := by rfl
def d_L_keeps (v1 : Int32) (v2 : Int32) (M : Mem) : Option (Res × Mem) := (onI (d_X7_keeps v1 v2 M) (fun w2 M1 => (if inb (0 : Int32) 1 = true then some (.inl (some (.int (0 : Int32))), (sL M1 29 (ix (0 : Int32)) (if w2 = 0 then (0 : Int64) else (1 : Int64)))) else none)) (fun r => match r.1 with | .inr E => if E = "java/lang/IndexOutOfBoundsException" then some (.inl (some (.int (1 : Int32))), r.2) else none | _ => none))
set_option maxHeartbeats 2000000 in
theorem r_L_keeps (v1 : Int32) (v2 : Int32) (M : Mem) : RG C_L_keeps (0, [some (.ref 0), some (.int v1), some (.int v2), some (.ref 29), none], [], M, 0) (d_L_keeps v1 v2 M) (fun r => .inr r) := by
  unfold d_L_keeps
  refine RG.st 5 (congrFun (congrFun (congrFun b_L_keeps_0 v1) v2) M) ?_
  refine RG.callI (fun w2 M1 h1 => RG.st 1 (run_callV (v := (some (.int w2))) rfl rfl rfl rfl rfl h1) ?_) (fun E M1 h1 => ?_)
  rotate_left
  · dsimp only
    refine RG.ite (fun h4 => RG.fin rfl (Rend.run 1 (run_callVh (r := (1 : Int32)) rfl rfl rfl rfl rfl h1 rfl (by rw [h4]; rfl)))) (fun h4 => ?_)
    exact RG.none
  · show RG C_L_keeps (8, [some (.ref 0), some (.int v1), some (.int v2), some (.ref 29), none], [.int w2, .int (0 : Int32), .ref 29], M1, 2) _ _
    refine RG.step (m_L_keeps_0 v1 v2 w2 M1) ?_
    refine RG.guard (fun h2 => RG.st 1 (stp_g h2 (congrFun (congrFun (congrFun (congrFun b_L_keeps_4 v1) v2) w2) M1)) ?_)
    exact RG.fin rfl (Rend.run 3 (congrFun (congrFun (congrFun (congrFun b_L_keeps_5 v1) v2) w2) M1))
def fn_L_keeps : Fn := fun av M => match av with
  | [.ref r0, .int v1, .int v2, .ref r3] => bif Nat.beq r0 0 && Nat.beq r3 29 then (d_L_keeps v1 v2 M) else (none)
  | _ => none
theorem cfg_L_keeps : CfgOK RL cL_keeps (C_L_keeps) 8 := ⟨tk_L_keeps, csF_nd, flk_L, (List.forall_mem_cons.mpr ⟨Or.inr ⟨yX7_keeps, cX7_keeps, 3, (some .boolean), none, 7, ok_X7_keeps, by decide, by decide, w_code_Sumsetry_keeps__II_Z, w_initialized_Sumsetry, ⟨by decide, by decide⟩, Or.inr (Or.inr ⟨rfl, rfl, show (parseMethodDescriptor yX7_keeps.desc).map (fun d => d.parameters.length + 1) = some 3 from by decide +kernel, w_methodLink_SumsetryLaw_81, w_instanceMethod_Sumsetry_keeps__II_Z, w_selects_Sumsetry_keeps__II_Z, ⟨_, rfl, rfl⟩⟩)⟩, fun _ h => absurd h List.not_mem_nil⟩), ink_L, lgk_L, fun e h => absurd h List.not_mem_nil, (List.forall_mem_cons.mpr ⟨⟨by decide, w_classLink_SumsetryLaw_19, by decide⟩, fun _ h => absurd h List.not_mem_nil⟩)⟩
theorem ok_L_keeps : OkM csF yL_keeps (Cond.codeWith yL_keeps cL_keeps 5 (some .int) [(0, 17, 20, 19)]) 8 2 fn_L_keeps :=
  OkM_ofH (own := RL) (C := C_L_keeps) (hh := [(0, 17, 20, 19)]) (by decide +kernel) rfl (cfg_L_keeps) rfl rfl rfl rfl (by
    intro av M o M' h
    unfold fn_L_keeps at h
    split at h
    · rename_i r0 v1 v2 r3
      rcases bif_cs h with ⟨hb, h⟩ | ⟨-, h⟩
      · simp only [Bool.and_eq_true] at hb
        obtain ⟨hr0, hr1⟩ := hb
        obtain rfl := Nat.eq_of_beq_eq_true hr0
        obtain rfl := Nat.eq_of_beq_eq_true hr1
        exact ⟨rfl, Nat.le_of_ble_eq_true rfl, (r_L_keeps v1 v2 M) (o, M') h⟩
      · cases h
    · cases h)
def t_L_greatest : List (Nat × Instr × Nat) := [(0, .aload_n 3, 1), (1, .iconst 0, 1), (2, .aload_n 0, 1), (3, .iload_n 1, 1), (4, .iload_n 2, 1), (5, .invokevirtual 85, 3), (8, .lastore, 1), (9, .goto 11, 3), (12, .astore 4, 2), (14, .iconst 1, 1), (15, .ireturn, 1), (16, .astore 4, 2), (18, .iconst 2, 1), (19, .ireturn, 1), (20, .iconst 0, 1), (21, .ireturn, 1)]
theorem tk_L_greatest : ∀ x ∈ t_L_greatest, decode cL_greatest x.1 = .ok x.2 := by decide +kernel
def C_L_greatest : Cfg := (t_L_greatest, csF, fl_L, [(85, 2, 5, 3, 3, fn_X7_greatest)], in_L, lg_L, [], [(0, 9, 12, 19, "java/lang/IndexOutOfBoundsException"), (0, 9, 16, 25, "java/lang/IllegalStateException")], none, (some .int), 3)
set_option maxRecDepth 100000 in
theorem b_L_greatest_0 : (fun (v1 : Int32) (v2 : Int32) (M : Mem) => run C_L_greatest 5 (0, [some (.ref 0), some (.int v1), some (.int v2), some (.ref 29), none], [], M, 0)) = (fun (v1 : Int32) (v2 : Int32) (M : Mem) => some (.inl (5, [some (.ref 0), some (.int v1), some (.int v2), some (.ref 29), none], [.int v2, .int v1, .ref 0, .int (0 : Int32), .ref 29], M, 0))) := by rfl
set_option maxRecDepth 100000 in
theorem b_L_greatest_1 : (fun (v1 : Int32) (v2 : Int32) (w2 : Int64) (M1 : Mem) => stp C_L_greatest (8, [some (.ref 0), some (.int v1), some (.int v2), some (.ref 29), none], [.long w2, .int (0 : Int32), .ref 29], M1, 3)) = (fun (v1 : Int32) (v2 : Int32) (w2 : Int64) (M1 : Mem) => (if inb (0 : Int32) 1 = true then some (.inl (9, [some (.ref 0), some (.int v1), some (.int v2), some (.ref 29), none], [], (sL M1 29 (ix (0 : Int32)) w2), 3)) else none)) := by rfl
set_option maxRecDepth 100000 in
theorem b_L_greatest_2 : (fun (v1 : Int32) (v2 : Int32) (w2 : Int64) (M1 : Mem) => run C_L_greatest 3 (9, [some (.ref 0), some (.int v1), some (.int v2), some (.ref 29), none], [], (sL M1 29 (ix (0 : Int32)) w2), 3)) = (fun (v1 : Int32) (v2 : Int32) (w2 : Int64) (M1 : Mem) => some (.inr (.inl (some (.int (0 : Int32))), (sL M1 29 (ix (0 : Int32)) w2), 3))) := by rfl
def d_L_greatest (v1 : Int32) (v2 : Int32) (M : Mem) : Option (Res × Mem) := (onL (d_X7_greatest v1 v2 M) (fun w2 M1 => (if inb (0 : Int32) 1 = true then some (.inl (some (.int (0 : Int32))), (sL M1 29 (ix (0 : Int32)) w2)) else none)) (fun r => match r.1 with | .inr E => if E = "java/lang/IndexOutOfBoundsException" then some (.inl (some (.int (1 : Int32))), r.2) else if E = "java/lang/IllegalStateException" then some (.inl (some (.int (2 : Int32))), r.2) else none | _ => none))
set_option maxHeartbeats 2000000 in
theorem r_L_greatest (v1 : Int32) (v2 : Int32) (M : Mem) : RG C_L_greatest (0, [some (.ref 0), some (.int v1), some (.int v2), some (.ref 29), none], [], M, 0) (d_L_greatest v1 v2 M) (fun r => .inr r) := by
  unfold d_L_greatest
  refine RG.st 5 (congrFun (congrFun (congrFun b_L_greatest_0 v1) v2) M) ?_
  refine RG.callL (fun w2 M1 h1 => RG.st 1 (run_callV (v := (some (.long w2))) rfl rfl rfl rfl rfl h1) ?_) (fun E M1 h1 => ?_)
  rotate_left
  · dsimp only
    refine RG.ite (fun h4 => RG.fin rfl (Rend.run 1 (run_callVh (r := (1 : Int32)) rfl rfl rfl rfl rfl h1 rfl (by rw [h4]; rfl)))) (fun h4 => ?_)
    refine RG.ite (fun h5 => RG.fin rfl (Rend.run 1 (run_callVh (r := (2 : Int32)) rfl rfl rfl rfl rfl h1 rfl (by rw [h5]; rfl)))) (fun h5 => ?_)
    exact RG.none
  · show RG C_L_greatest (8, [some (.ref 0), some (.int v1), some (.int v2), some (.ref 29), none], [.long w2, .int (0 : Int32), .ref 29], M1, 3) _ _
    refine RG.guard (fun h2 => RG.st 1 (stp_g h2 (congrFun (congrFun (congrFun (congrFun b_L_greatest_1 v1) v2) w2) M1)) ?_)
    exact RG.fin rfl (Rend.run 3 (congrFun (congrFun (congrFun (congrFun b_L_greatest_2 v1) v2) w2) M1))
def fn_L_greatest : Fn := fun av M => match av with
  | [.ref r0, .int v1, .int v2, .ref r3] => bif Nat.beq r0 0 && Nat.beq r3 29 then (d_L_greatest v1 v2 M) else (none)
  | _ => none
theorem cfg_L_greatest : CfgOK RL cL_greatest (C_L_greatest) 24 := ⟨tk_L_greatest, csF_nd, flk_L, (List.forall_mem_cons.mpr ⟨Or.inr ⟨yX7_greatest, cX7_greatest, 3, (some .long), none, 23, ok_X7_greatest, by decide, by decide, w_code_Sumsetry_greatest__II_J, w_initialized_Sumsetry, ⟨by decide, by decide⟩, Or.inr (Or.inr ⟨rfl, rfl, show (parseMethodDescriptor yX7_greatest.desc).map (fun d => d.parameters.length + 1) = some 3 from by decide +kernel, w_methodLink_SumsetryLaw_85, w_instanceMethod_Sumsetry_greatest__II_J, w_selects_Sumsetry_greatest__II_J, ⟨_, rfl, rfl⟩⟩)⟩, fun _ h => absurd h List.not_mem_nil⟩), ink_L, lgk_L, fun e h => absurd h List.not_mem_nil, (List.forall_mem_cons.mpr ⟨⟨by decide, w_classLink_SumsetryLaw_19, by decide⟩, List.forall_mem_cons.mpr ⟨⟨by decide, w_classLink_SumsetryLaw_25, by decide⟩, fun _ h => absurd h List.not_mem_nil⟩⟩)⟩
theorem ok_L_greatest : OkM csF yL_greatest (Cond.codeWith yL_greatest cL_greatest 5 (some .int) [(0, 9, 12, 19), (0, 9, 16, 25)]) 24 3 fn_L_greatest :=
  OkM_ofH (own := RL) (C := C_L_greatest) (hh := [(0, 9, 12, 19), (0, 9, 16, 25)]) (by decide +kernel) rfl (cfg_L_greatest) rfl rfl rfl rfl (by
    intro av M o M' h
    unfold fn_L_greatest at h
    split at h
    · rename_i r0 v1 v2 r3
      rcases bif_cs h with ⟨hb, h⟩ | ⟨-, h⟩
      · simp only [Bool.and_eq_true] at hb
        obtain ⟨hr0, hr1⟩ := hb
        obtain rfl := Nat.eq_of_beq_eq_true hr0
        obtain rfl := Nat.eq_of_beq_eq_true hr1
        exact ⟨rfl, Nat.le_of_ble_eq_true rfl, (r_L_greatest v1 v2 M) (o, M') h⟩
      · cases h
    · cases h)
def t_L_greatestAnew : List (Nat × Instr × Nat) := [(0, .aload_n 3, 1), (1, .iconst 0, 1), (2, .aload_n 0, 1), (3, .iload_n 1, 1), (4, .iload_n 2, 1), (5, .invokevirtual 88, 3), (8, .lastore, 1), (9, .goto 11, 3), (12, .astore 4, 2), (14, .iconst 1, 1), (15, .ireturn, 1), (16, .astore 4, 2), (18, .iconst 2, 1), (19, .ireturn, 1), (20, .iconst 0, 1), (21, .ireturn, 1)]
theorem tk_L_greatestAnew : ∀ x ∈ t_L_greatestAnew, decode cL_greatestAnew x.1 = .ok x.2 := by decide +kernel
def C_L_greatestAnew : Cfg := (t_L_greatestAnew, csF, fl_L, [(88, 2, 5, 3, 3, fn_X7_greatestAnew)], in_L, lg_L, [], [(0, 9, 12, 19, "java/lang/IndexOutOfBoundsException"), (0, 9, 16, 25, "java/lang/IllegalStateException")], none, (some .int), 3)
set_option maxRecDepth 100000 in
theorem b_L_greatestAnew_0 : (fun (v1 : Int32) (v2 : Int32) (M : Mem) => run C_L_greatestAnew 5 (0, [some (.ref 0), some (.int v1), some (.int v2), some (.ref 29), none], [], M, 0)) = (fun (v1 : Int32) (v2 : Int32) (M : Mem) => some (.inl (5, [some (.ref 0), some (.int v1), some (.int v2), some (.ref 29), none], [.int v2, .int v1, .ref 0, .int (0 : Int32), .ref 29], M, 0))) := by rfl
set_option maxRecDepth 100000 in
theorem b_L_greatestAnew_1 : (fun (v1 : Int32) (v2 : Int32) (w2 : Int64) (M1 : Mem) => stp C_L_greatestAnew (8, [some (.ref 0), some (.int v1), some (.int v2), some (.ref 29), none], [.long w2, .int (0 : Int32), .ref 29], M1, 3)) = (fun (v1 : Int32) (v2 : Int32) (w2 : Int64) (M1 : Mem) => (if inb (0 : Int32) 1 = true then some (.inl (9, [some (.ref 0), some (.int v1), some (.int v2), some (.ref 29), none], [], (sL M1 29 (ix (0 : Int32)) w2), 3)) else none)) := by rfl
set_option maxRecDepth 100000 in
theorem b_L_greatestAnew_2 : (fun (v1 : Int32) (v2 : Int32) (w2 : Int64) (M1 : Mem) => run C_L_greatestAnew 3 (9, [some (.ref 0), some (.int v1), some (.int v2), some (.ref 29), none], [], (sL M1 29 (ix (0 : Int32)) w2), 3)) = (fun (v1 : Int32) (v2 : Int32) (w2 : Int64) (M1 : Mem) => some (.inr (.inl (some (.int (0 : Int32))), (sL M1 29 (ix (0 : Int32)) w2), 3))) := by rfl
def d_L_greatestAnew (v1 : Int32) (v2 : Int32) (M : Mem) : Option (Res × Mem) := (onL (d_X7_greatestAnew v1 v2 M) (fun w2 M1 => (if inb (0 : Int32) 1 = true then some (.inl (some (.int (0 : Int32))), (sL M1 29 (ix (0 : Int32)) w2)) else none)) (fun r => match r.1 with | .inr E => if E = "java/lang/IndexOutOfBoundsException" then some (.inl (some (.int (1 : Int32))), r.2) else if E = "java/lang/IllegalStateException" then some (.inl (some (.int (2 : Int32))), r.2) else none | _ => none))
set_option maxHeartbeats 2000000 in
theorem r_L_greatestAnew (v1 : Int32) (v2 : Int32) (M : Mem) : RG C_L_greatestAnew (0, [some (.ref 0), some (.int v1), some (.int v2), some (.ref 29), none], [], M, 0) (d_L_greatestAnew v1 v2 M) (fun r => .inr r) := by
  unfold d_L_greatestAnew
  refine RG.st 5 (congrFun (congrFun (congrFun b_L_greatestAnew_0 v1) v2) M) ?_
  refine RG.callL (fun w2 M1 h1 => RG.st 1 (run_callV (v := (some (.long w2))) rfl rfl rfl rfl rfl h1) ?_) (fun E M1 h1 => ?_)
  rotate_left
  · dsimp only
    refine RG.ite (fun h4 => RG.fin rfl (Rend.run 1 (run_callVh (r := (1 : Int32)) rfl rfl rfl rfl rfl h1 rfl (by rw [h4]; rfl)))) (fun h4 => ?_)
    refine RG.ite (fun h5 => RG.fin rfl (Rend.run 1 (run_callVh (r := (2 : Int32)) rfl rfl rfl rfl rfl h1 rfl (by rw [h5]; rfl)))) (fun h5 => ?_)
    exact RG.none
  · show RG C_L_greatestAnew (8, [some (.ref 0), some (.int v1), some (.int v2), some (.ref 29), none], [.long w2, .int (0 : Int32), .ref 29], M1, 3) _ _
    refine RG.guard (fun h2 => RG.st 1 (stp_g h2 (congrFun (congrFun (congrFun (congrFun b_L_greatestAnew_1 v1) v2) w2) M1)) ?_)
    exact RG.fin rfl (Rend.run 3 (congrFun (congrFun (congrFun (congrFun b_L_greatestAnew_2 v1) v2) w2) M1))
def fn_L_greatestAnew : Fn := fun av M => match av with
  | [.ref r0, .int v1, .int v2, .ref r3] => bif Nat.beq r0 0 && Nat.beq r3 29 then (d_L_greatestAnew v1 v2 M) else (none)
  | _ => none
theorem cfg_L_greatestAnew : CfgOK RL cL_greatestAnew (C_L_greatestAnew) 9 := ⟨tk_L_greatestAnew, csF_nd, flk_L, (List.forall_mem_cons.mpr ⟨Or.inr ⟨yX7_greatestAnew, cX7_greatestAnew, 3, (some .long), none, 8, ok_X7_greatestAnew, by decide, by decide, w_code_Sumsetry_greatestAnew__II_J, w_initialized_Sumsetry, ⟨by decide, by decide⟩, Or.inr (Or.inr ⟨rfl, rfl, show (parseMethodDescriptor yX7_greatestAnew.desc).map (fun d => d.parameters.length + 1) = some 3 from by decide +kernel, w_methodLink_SumsetryLaw_88, w_instanceMethod_Sumsetry_greatestAnew__II_J, w_selects_Sumsetry_greatestAnew__II_J, ⟨_, rfl, rfl⟩⟩)⟩, fun _ h => absurd h List.not_mem_nil⟩), ink_L, lgk_L, fun e h => absurd h List.not_mem_nil, (List.forall_mem_cons.mpr ⟨⟨by decide, w_classLink_SumsetryLaw_19, by decide⟩, List.forall_mem_cons.mpr ⟨⟨by decide, w_classLink_SumsetryLaw_25, by decide⟩, fun _ h => absurd h List.not_mem_nil⟩⟩)⟩
theorem ok_L_greatestAnew : OkM csF yL_greatestAnew (Cond.codeWith yL_greatestAnew cL_greatestAnew 5 (some .int) [(0, 9, 12, 19), (0, 9, 16, 25)]) 9 3 fn_L_greatestAnew :=
  OkM_ofH (own := RL) (C := C_L_greatestAnew) (hh := [(0, 9, 12, 19), (0, 9, 16, 25)]) (by decide +kernel) rfl (cfg_L_greatestAnew) rfl rfl rfl rfl (by
    intro av M o M' h
    unfold fn_L_greatestAnew at h
    split at h
    · rename_i r0 v1 v2 r3
      rcases bif_cs h with ⟨hb, h⟩ | ⟨-, h⟩
      · simp only [Bool.and_eq_true] at hb
        obtain ⟨hr0, hr1⟩ := hb
        obtain rfl := Nat.eq_of_beq_eq_true hr0
        obtain rfl := Nat.eq_of_beq_eq_true hr1
        exact ⟨rfl, Nat.le_of_ble_eq_true rfl, (r_L_greatestAnew v1 v2 M) (o, M') h⟩
      · cases h
    · cases h)
def t_L_wins : List (Nat × Instr × Nat) := [(0, .aload 4, 2), (2, .iconst 0, 1), (3, .aload_n 0, 1), (4, .iload_n 1, 1), (5, .lload_n 2, 1), (6, .invokevirtual 91, 3), (9, .lastore, 1), (10, .goto 15, 3), (13, .astore 5, 2), (15, .iconst 1, 1), (16, .ireturn, 1), (17, .astore 5, 2), (19, .iconst 2, 1), (20, .ireturn, 1), (21, .astore 5, 2), (23, .iconst 3, 1), (24, .ireturn, 1), (25, .iconst 0, 1), (26, .ireturn, 1)]
theorem tk_L_wins : ∀ x ∈ t_L_wins, decode cL_wins x.1 = .ok x.2 := by decide +kernel
def C_L_wins : Cfg := (t_L_wins, csF, fl_L, [(91, 2, 5, 3, 2, fn_X7_wins)], in_L, lg_L, [], [(0, 10, 13, 19, "java/lang/IndexOutOfBoundsException"), (0, 10, 17, 13, "java/lang/IllegalArgumentException"), (0, 10, 21, 25, "java/lang/IllegalStateException")], none, (some .int), 2)
set_option maxRecDepth 100000 in
theorem b_L_wins_0 : (fun (v1 : Int32) (v2 : Int64) (M : Mem) => run C_L_wins 5 (0, [some (.ref 0), some (.int v1), some (.long v2), none, some (.ref 29), none], [], M, 0)) = (fun (v1 : Int32) (v2 : Int64) (M : Mem) => some (.inl (6, [some (.ref 0), some (.int v1), some (.long v2), none, some (.ref 29), none], [.long v2, .int v1, .ref 0, .int (0 : Int32), .ref 29], M, 0))) := by rfl
set_option maxRecDepth 100000 in
theorem b_L_wins_1 : (fun (v1 : Int32) (v2 : Int64) (w2 : Int64) (M1 : Mem) => stp C_L_wins (9, [some (.ref 0), some (.int v1), some (.long v2), none, some (.ref 29), none], [.long w2, .int (0 : Int32), .ref 29], M1, 2)) = (fun (v1 : Int32) (v2 : Int64) (w2 : Int64) (M1 : Mem) => (if inb (0 : Int32) 1 = true then some (.inl (10, [some (.ref 0), some (.int v1), some (.long v2), none, some (.ref 29), none], [], (sL M1 29 (ix (0 : Int32)) w2), 2)) else none)) := by rfl
set_option maxRecDepth 100000 in
theorem b_L_wins_2 : (fun (v1 : Int32) (v2 : Int64) (w2 : Int64) (M1 : Mem) => run C_L_wins 3 (10, [some (.ref 0), some (.int v1), some (.long v2), none, some (.ref 29), none], [], (sL M1 29 (ix (0 : Int32)) w2), 2)) = (fun (v1 : Int32) (v2 : Int64) (w2 : Int64) (M1 : Mem) => some (.inr (.inl (some (.int (0 : Int32))), (sL M1 29 (ix (0 : Int32)) w2), 2))) := by rfl
def d_L_wins (v1 : Int32) (v2 : Int64) (M : Mem) : Option (Res × Mem) := (onL (d_X7_wins v1 v2 M) (fun w2 M1 => (if inb (0 : Int32) 1 = true then some (.inl (some (.int (0 : Int32))), (sL M1 29 (ix (0 : Int32)) w2)) else none)) (fun r => match r.1 with | .inr E => if E = "java/lang/IndexOutOfBoundsException" then some (.inl (some (.int (1 : Int32))), r.2) else if E = "java/lang/IllegalArgumentException" then some (.inl (some (.int (2 : Int32))), r.2) else if E = "java/lang/IllegalStateException" then some (.inl (some (.int (3 : Int32))), r.2) else none | _ => none))
set_option maxHeartbeats 2000000 in
theorem r_L_wins (v1 : Int32) (v2 : Int64) (M : Mem) : RG C_L_wins (0, [some (.ref 0), some (.int v1), some (.long v2), none, some (.ref 29), none], [], M, 0) (d_L_wins v1 v2 M) (fun r => .inr r) := by
  unfold d_L_wins
  refine RG.st 5 (congrFun (congrFun (congrFun b_L_wins_0 v1) v2) M) ?_
  refine RG.callL (fun w2 M1 h1 => RG.st 1 (run_callV (v := (some (.long w2))) rfl rfl rfl rfl rfl h1) ?_) (fun E M1 h1 => ?_)
  rotate_left
  · dsimp only
    refine RG.ite (fun h4 => RG.fin rfl (Rend.run 1 (run_callVh (r := (1 : Int32)) rfl rfl rfl rfl rfl h1 rfl (by rw [h4]; rfl)))) (fun h4 => ?_)
    refine RG.ite (fun h5 => RG.fin rfl (Rend.run 1 (run_callVh (r := (2 : Int32)) rfl rfl rfl rfl rfl h1 rfl (by rw [h5]; rfl)))) (fun h5 => ?_)
    refine RG.ite (fun h6 => RG.fin rfl (Rend.run 1 (run_callVh (r := (3 : Int32)) rfl rfl rfl rfl rfl h1 rfl (by rw [h6]; rfl)))) (fun h6 => ?_)
    exact RG.none
  · show RG C_L_wins (9, [some (.ref 0), some (.int v1), some (.long v2), none, some (.ref 29), none], [.long w2, .int (0 : Int32), .ref 29], M1, 2) _ _
    refine RG.guard (fun h2 => RG.st 1 (stp_g h2 (congrFun (congrFun (congrFun (congrFun b_L_wins_1 v1) v2) w2) M1)) ?_)
    exact RG.fin rfl (Rend.run 3 (congrFun (congrFun (congrFun (congrFun b_L_wins_2 v1) v2) w2) M1))
def fn_L_wins : Fn := fun av M => match av with
  | [.ref r0, .int v1, .long v2, .ref r4] => bif Nat.beq r0 0 && Nat.beq r4 29 then (d_L_wins v1 v2 M) else (none)
  | _ => none
theorem cfg_L_wins : CfgOK RL cL_wins (C_L_wins) 10 := ⟨tk_L_wins, csF_nd, flk_L, (List.forall_mem_cons.mpr ⟨Or.inr ⟨yX7_wins, cX7_wins, 4, (some .long), none, 9, ok_X7_wins, by decide, by decide, w_code_Sumsetry_wins__IJ_J, w_initialized_Sumsetry, ⟨by decide, by decide⟩, Or.inr (Or.inr ⟨rfl, rfl, show (parseMethodDescriptor yX7_wins.desc).map (fun d => d.parameters.length + 1) = some 3 from by decide +kernel, w_methodLink_SumsetryLaw_91, w_instanceMethod_Sumsetry_wins__IJ_J, w_selects_Sumsetry_wins__IJ_J, ⟨_, rfl, rfl⟩⟩)⟩, fun _ h => absurd h List.not_mem_nil⟩), ink_L, lgk_L, fun e h => absurd h List.not_mem_nil, (List.forall_mem_cons.mpr ⟨⟨by decide, w_classLink_SumsetryLaw_19, by decide⟩, List.forall_mem_cons.mpr ⟨⟨by decide, w_classLink_SumsetryLaw_13, by decide⟩, List.forall_mem_cons.mpr ⟨⟨by decide, w_classLink_SumsetryLaw_25, by decide⟩, fun _ h => absurd h List.not_mem_nil⟩⟩⟩)⟩
theorem ok_L_wins : OkM csF yL_wins (Cond.codeWith yL_wins cL_wins 6 (some .int) [(0, 10, 13, 19), (0, 10, 17, 13), (0, 10, 21, 25)]) 10 2 fn_L_wins :=
  OkM_ofH (own := RL) (C := C_L_wins) (hh := [(0, 10, 13, 19), (0, 10, 17, 13), (0, 10, 21, 25)]) (by decide +kernel) rfl (cfg_L_wins) rfl rfl rfl rfl (by
    intro av M o M' h
    unfold fn_L_wins at h
    split at h
    · rename_i r0 v1 v2 r4
      rcases bif_cs h with ⟨hb, h⟩ | ⟨-, h⟩
      · simp only [Bool.and_eq_true] at hb
        obtain ⟨hr0, hr1⟩ := hb
        obtain rfl := Nat.eq_of_beq_eq_true hr0
        obtain rfl := Nat.eq_of_beq_eq_true hr1
        exact ⟨rfl, Nat.le_of_ble_eq_true rfl, (r_L_wins v1 v2 M) (o, M') h⟩
      · cases h
    · cases h)
def t_L_put : List (Nat × Instr × Nat) := [(0, .aload_n 2, 1), (1, .iconst 0, 1), (2, .aload_n 0, 1), (3, .iload_n 1, 1), (4, .invokevirtual 95, 3), (7, .i2l, 1), (8, .lastore, 1), (9, .goto 9, 3), (12, .astore_n 3, 1), (13, .iconst 1, 1), (14, .ireturn, 1), (15, .astore_n 3, 1), (16, .iconst 2, 1), (17, .ireturn, 1), (18, .iconst 0, 1), (19, .ireturn, 1)]
theorem tk_L_put : ∀ x ∈ t_L_put, decode cL_put x.1 = .ok x.2 := by decide +kernel
def C_L_put : Cfg := (t_L_put, csF, fl_L, [(95, 2, 5, 2, 2, fn_X7_put)], in_L, lg_L, [], [(0, 9, 12, 19, "java/lang/IndexOutOfBoundsException"), (0, 9, 15, 25, "java/lang/IllegalStateException")], none, (some .int), 2)
set_option maxRecDepth 100000 in
theorem b_L_put_0 : (fun (v1 : Int32) (M : Mem) => run C_L_put 4 (0, [some (.ref 0), some (.int v1), some (.ref 29), none], [], M, 0)) = (fun (v1 : Int32) (M : Mem) => some (.inl (4, [some (.ref 0), some (.int v1), some (.ref 29), none], [.int v1, .ref 0, .int (0 : Int32), .ref 29], M, 0))) := by rfl
set_option maxRecDepth 100000 in
theorem b_L_put_1 : (fun (v1 : Int32) (w2 : Int32) (M1 : Mem) => run C_L_put 1 (7, [some (.ref 0), some (.int v1), some (.ref 29), none], [.int w2, .int (0 : Int32), .ref 29], M1, 2)) = (fun (v1 : Int32) (w2 : Int32) (M1 : Mem) => some (.inl (8, [some (.ref 0), some (.int v1), some (.ref 29), none], [.long w2.toInt64, .int (0 : Int32), .ref 29], M1, 2))) := by rfl
set_option maxRecDepth 100000 in
theorem b_L_put_2 : (fun (v1 : Int32) (w2 : Int32) (M1 : Mem) => stp C_L_put (8, [some (.ref 0), some (.int v1), some (.ref 29), none], [.long w2.toInt64, .int (0 : Int32), .ref 29], M1, 2)) = (fun (v1 : Int32) (w2 : Int32) (M1 : Mem) => (if inb (0 : Int32) 1 = true then some (.inl (9, [some (.ref 0), some (.int v1), some (.ref 29), none], [], (sL M1 29 (ix (0 : Int32)) w2.toInt64), 2)) else none)) := by rfl
set_option maxRecDepth 100000 in
theorem b_L_put_3 : (fun (v1 : Int32) (w2 : Int32) (M1 : Mem) => run C_L_put 3 (9, [some (.ref 0), some (.int v1), some (.ref 29), none], [], (sL M1 29 (ix (0 : Int32)) w2.toInt64), 2)) = (fun (v1 : Int32) (w2 : Int32) (M1 : Mem) => some (.inr (.inl (some (.int (0 : Int32))), (sL M1 29 (ix (0 : Int32)) w2.toInt64), 2))) := by rfl
def d_L_put (v1 : Int32) (M : Mem) : Option (Res × Mem) := (onI (d_X7_put v1 M) (fun w2 M1 => (if inb (0 : Int32) 1 = true then some (.inl (some (.int (0 : Int32))), (sL M1 29 (ix (0 : Int32)) w2.toInt64)) else none)) (fun r => match r.1 with | .inr E => if E = "java/lang/IndexOutOfBoundsException" then some (.inl (some (.int (1 : Int32))), r.2) else if E = "java/lang/IllegalStateException" then some (.inl (some (.int (2 : Int32))), r.2) else none | _ => none))
set_option maxHeartbeats 2000000 in
theorem r_L_put (v1 : Int32) (M : Mem) : RG C_L_put (0, [some (.ref 0), some (.int v1), some (.ref 29), none], [], M, 0) (d_L_put v1 M) (fun r => .inr r) := by
  unfold d_L_put
  refine RG.st 4 (congrFun (congrFun b_L_put_0 v1) M) ?_
  refine RG.callI (fun w2 M1 h1 => RG.st 1 (run_callV (v := (some (.int w2))) rfl rfl rfl rfl rfl h1) ?_) (fun E M1 h1 => ?_)
  rotate_left
  · dsimp only
    refine RG.ite (fun h4 => RG.fin rfl (Rend.run 1 (run_callVh (r := (1 : Int32)) rfl rfl rfl rfl rfl h1 rfl (by rw [h4]; rfl)))) (fun h4 => ?_)
    refine RG.ite (fun h5 => RG.fin rfl (Rend.run 1 (run_callVh (r := (2 : Int32)) rfl rfl rfl rfl rfl h1 rfl (by rw [h5]; rfl)))) (fun h5 => ?_)
    exact RG.none
  · show RG C_L_put (7, [some (.ref 0), some (.int v1), some (.ref 29), none], [.int w2, .int (0 : Int32), .ref 29], M1, 2) _ _
    refine RG.st 1 (congrFun (congrFun (congrFun b_L_put_1 v1) w2) M1) ?_
    refine RG.guard (fun h2 => RG.st 1 (stp_g h2 (congrFun (congrFun (congrFun b_L_put_2 v1) w2) M1)) ?_)
    exact RG.fin rfl (Rend.run 3 (congrFun (congrFun (congrFun b_L_put_3 v1) w2) M1))
def fn_L_put : Fn := fun av M => match av with
  | [.ref r0, .int v1, .ref r2] => bif Nat.beq r0 0 && Nat.beq r2 29 then (d_L_put v1 M) else (none)
  | _ => none
theorem cfg_L_put : CfgOK RL cL_put (C_L_put) 8 := ⟨tk_L_put, csF_nd, flk_L, (List.forall_mem_cons.mpr ⟨Or.inr ⟨yX7_put, cX7_put, 2, (some .int), none, 7, ok_X7_put, by decide, by decide, w_code_Sumsetry_put__I_I, w_initialized_Sumsetry, ⟨by decide, by decide⟩, Or.inr (Or.inr ⟨rfl, rfl, show (parseMethodDescriptor yX7_put.desc).map (fun d => d.parameters.length + 1) = some 2 from by decide +kernel, w_methodLink_SumsetryLaw_95, w_instanceMethod_Sumsetry_put__I_I, w_selects_Sumsetry_put__I_I, ⟨_, rfl, rfl⟩⟩)⟩, fun _ h => absurd h List.not_mem_nil⟩), ink_L, lgk_L, fun e h => absurd h List.not_mem_nil, (List.forall_mem_cons.mpr ⟨⟨by decide, w_classLink_SumsetryLaw_19, by decide⟩, List.forall_mem_cons.mpr ⟨⟨by decide, w_classLink_SumsetryLaw_25, by decide⟩, fun _ h => absurd h List.not_mem_nil⟩⟩)⟩
theorem ok_L_put : OkM csF yL_put (Cond.codeWith yL_put cL_put 4 (some .int) [(0, 9, 12, 19), (0, 9, 15, 25)]) 8 2 fn_L_put :=
  OkM_ofH (own := RL) (C := C_L_put) (hh := [(0, 9, 12, 19), (0, 9, 15, 25)]) (by decide +kernel) rfl (cfg_L_put) rfl rfl rfl rfl (by
    intro av M o M' h
    unfold fn_L_put at h
    split at h
    · rename_i r0 v1 r2
      rcases bif_cs h with ⟨hb, h⟩ | ⟨-, h⟩
      · simp only [Bool.and_eq_true] at hb
        obtain ⟨hr0, hr1⟩ := hb
        obtain rfl := Nat.eq_of_beq_eq_true hr0
        obtain rfl := Nat.eq_of_beq_eq_true hr1
        exact ⟨rfl, Nat.le_of_ble_eq_true rfl, (r_L_put v1 M) (o, M') h⟩
      · cases h
    · cases h)
def t_L_constant : List (Nat × Instr × Nat) := [(0, .aload_n 1, 1), (1, .iconst 0, 1), (2, .aload_n 0, 1), (3, .invokevirtual 98, 3), (6, .i2l, 1), (7, .lastore, 1), (8, .goto 6, 3), (11, .astore_n 2, 1), (12, .iconst 1, 1), (13, .ireturn, 1), (14, .iconst 0, 1), (15, .ireturn, 1)]
theorem tk_L_constant : ∀ x ∈ t_L_constant, decode cL_constant x.1 = .ok x.2 := by decide +kernel
def C_L_constant : Cfg := (t_L_constant, csF, fl_L, [(98, 2, 5, 1, 1, fn_X7_constant)], in_L, lg_L, [], [(0, 8, 11, 25, "java/lang/IllegalStateException")], none, (some .int), 1)
set_option maxRecDepth 100000 in
theorem b_L_constant_0 : (fun (M : Mem) => run C_L_constant 3 (0, [some (.ref 0), some (.ref 29), none], [], M, 0)) = (fun (M : Mem) => some (.inl (3, [some (.ref 0), some (.ref 29), none], [.ref 0, .int (0 : Int32), .ref 29], M, 0))) := by rfl
set_option maxRecDepth 100000 in
theorem b_L_constant_1 : (fun (w2 : Int32) (M1 : Mem) => run C_L_constant 1 (6, [some (.ref 0), some (.ref 29), none], [.int w2, .int (0 : Int32), .ref 29], M1, 1)) = (fun (w2 : Int32) (M1 : Mem) => some (.inl (7, [some (.ref 0), some (.ref 29), none], [.long w2.toInt64, .int (0 : Int32), .ref 29], M1, 1))) := by rfl
set_option maxRecDepth 100000 in
theorem b_L_constant_2 : (fun (w2 : Int32) (M1 : Mem) => stp C_L_constant (7, [some (.ref 0), some (.ref 29), none], [.long w2.toInt64, .int (0 : Int32), .ref 29], M1, 1)) = (fun (w2 : Int32) (M1 : Mem) => (if inb (0 : Int32) 1 = true then some (.inl (8, [some (.ref 0), some (.ref 29), none], [], (sL M1 29 (ix (0 : Int32)) w2.toInt64), 1)) else none)) := by rfl
set_option maxRecDepth 100000 in
theorem b_L_constant_3 : (fun (w2 : Int32) (M1 : Mem) => run C_L_constant 3 (8, [some (.ref 0), some (.ref 29), none], [], (sL M1 29 (ix (0 : Int32)) w2.toInt64), 1)) = (fun (w2 : Int32) (M1 : Mem) => some (.inr (.inl (some (.int (0 : Int32))), (sL M1 29 (ix (0 : Int32)) w2.toInt64), 1))) := by rfl
def d_L_constant (M : Mem) : Option (Res × Mem) := (onI (d_X7_constant M) (fun w2 M1 => (if inb (0 : Int32) 1 = true then some (.inl (some (.int (0 : Int32))), (sL M1 29 (ix (0 : Int32)) w2.toInt64)) else none)) (fun r => match r.1 with | .inr E => if E = "java/lang/IllegalStateException" then some (.inl (some (.int (1 : Int32))), r.2) else none | _ => none))
set_option maxHeartbeats 2000000 in
theorem r_L_constant (M : Mem) : RG C_L_constant (0, [some (.ref 0), some (.ref 29), none], [], M, 0) (d_L_constant M) (fun r => .inr r) := by
  unfold d_L_constant
  refine RG.st 3 (congrFun b_L_constant_0 M) ?_
  refine RG.callI (fun w2 M1 h1 => RG.st 1 (run_callV (v := (some (.int w2))) rfl rfl rfl rfl rfl h1) ?_) (fun E M1 h1 => ?_)
  rotate_left
  · dsimp only
    refine RG.ite (fun h4 => RG.fin rfl (Rend.run 1 (run_callVh (r := (1 : Int32)) rfl rfl rfl rfl rfl h1 rfl (by rw [h4]; rfl)))) (fun h4 => ?_)
    exact RG.none
  · show RG C_L_constant (6, [some (.ref 0), some (.ref 29), none], [.int w2, .int (0 : Int32), .ref 29], M1, 1) _ _
    refine RG.st 1 (congrFun (congrFun b_L_constant_1 w2) M1) ?_
    refine RG.guard (fun h2 => RG.st 1 (stp_g h2 (congrFun (congrFun b_L_constant_2 w2) M1)) ?_)
    exact RG.fin rfl (Rend.run 3 (congrFun (congrFun b_L_constant_3 w2) M1))
def fn_L_constant : Fn := fun av M => match av with
  | [.ref r0, .ref r1] => bif Nat.beq r0 0 && Nat.beq r1 29 then (d_L_constant M) else (none)
  | _ => none
theorem cfg_L_constant : CfgOK RL cL_constant (C_L_constant) 7 := ⟨tk_L_constant, csF_nd, flk_L, (List.forall_mem_cons.mpr ⟨Or.inr ⟨yX7_constant, cX7_constant, 1, (some .int), none, 6, ok_X7_constant, by decide, by decide, w_code_Sumsetry_constant___I, w_initialized_Sumsetry, ⟨by decide, by decide⟩, Or.inr (Or.inr ⟨rfl, rfl, show (parseMethodDescriptor yX7_constant.desc).map (fun d => d.parameters.length + 1) = some 1 from by decide +kernel, w_methodLink_SumsetryLaw_98, w_instanceMethod_Sumsetry_constant___I, w_selects_Sumsetry_constant___I, ⟨_, rfl, rfl⟩⟩)⟩, fun _ h => absurd h List.not_mem_nil⟩), ink_L, lgk_L, fun e h => absurd h List.not_mem_nil, (List.forall_mem_cons.mpr ⟨⟨by decide, w_classLink_SumsetryLaw_25, by decide⟩, fun _ h => absurd h List.not_mem_nil⟩)⟩
theorem ok_L_constant : OkM csF yL_constant (Cond.codeWith yL_constant cL_constant 3 (some .int) [(0, 8, 11, 25)]) 7 1 fn_L_constant :=
  OkM_ofH (own := RL) (C := C_L_constant) (hh := [(0, 8, 11, 25)]) (by decide +kernel) rfl (cfg_L_constant) rfl rfl rfl rfl (by
    intro av M o M' h
    unfold fn_L_constant at h
    split at h
    · rename_i r0 r1
      rcases bif_cs h with ⟨hb, h⟩ | ⟨-, h⟩
      · simp only [Bool.and_eq_true] at hb
        obtain ⟨hr0, hr1⟩ := hb
        obtain rfl := Nat.eq_of_beq_eq_true hr0
        obtain rfl := Nat.eq_of_beq_eq_true hr1
        exact ⟨rfl, Nat.le_of_ble_eq_true rfl, (r_L_constant M) (o, M') h⟩
      · cases h
    · cases h)
def t_L_root : List (Nat × Instr × Nat) := [(0, .aload_n 0, 1), (1, .iload_n 1, 1), (2, .iload_n 2, 1), (3, .invokevirtual 102, 3), (6, .goto 9, 3), (9, .astore_n 3, 1), (10, .iconst 1, 1), (11, .ireturn, 1), (12, .astore_n 3, 1), (13, .iconst 2, 1), (14, .ireturn, 1), (15, .iconst 0, 1), (16, .ireturn, 1)]
theorem tk_L_root : ∀ x ∈ t_L_root, decode cL_root x.1 = .ok x.2 := by decide +kernel
def C_L_root : Cfg := (t_L_root, csF, fl_L, [(102, 2, 5, 3, 1, fn_X7_root)], in_L, lg_L, [], [(0, 6, 9, 13, "java/lang/IllegalArgumentException"), (0, 6, 12, 25, "java/lang/IllegalStateException")], none, (some .int), 1)
set_option maxRecDepth 100000 in
theorem b_L_root_0 : (fun (v1 : Int32) (v2 : Int32) (M : Mem) => run C_L_root 3 (0, [some (.ref 0), some (.int v1), some (.int v2), none], [], M, 0)) = (fun (v1 : Int32) (v2 : Int32) (M : Mem) => some (.inl (3, [some (.ref 0), some (.int v1), some (.int v2), none], [.int v2, .int v1, .ref 0], M, 0))) := by rfl
set_option maxRecDepth 100000 in
theorem b_L_root_1 : (fun (v1 : Int32) (v2 : Int32) (M1 : Mem) => run C_L_root 3 (6, [some (.ref 0), some (.int v1), some (.int v2), none], [], M1, 1)) = (fun (v1 : Int32) (v2 : Int32) (M1 : Mem) => some (.inr (.inl (some (.int (0 : Int32))), M1, 1))) := by rfl
def d_L_root (v1 : Int32) (v2 : Int32) (M : Mem) : Option (Res × Mem) := (onV (d_X7_root v1 v2 M) (fun M1 => some (.inl (some (.int (0 : Int32))), M1)) (fun r => match r.1 with | .inr E => if E = "java/lang/IllegalArgumentException" then some (.inl (some (.int (1 : Int32))), r.2) else if E = "java/lang/IllegalStateException" then some (.inl (some (.int (2 : Int32))), r.2) else none | _ => none))
set_option maxHeartbeats 2000000 in
theorem r_L_root (v1 : Int32) (v2 : Int32) (M : Mem) : RG C_L_root (0, [some (.ref 0), some (.int v1), some (.int v2), none], [], M, 0) (d_L_root v1 v2 M) (fun r => .inr r) := by
  unfold d_L_root
  refine RG.st 3 (congrFun (congrFun (congrFun b_L_root_0 v1) v2) M) ?_
  refine RG.callV (fun M1 h1 => RG.st 1 (run_callV (v := none) rfl rfl rfl rfl rfl h1) ?_) (fun E M1 h1 => ?_)
  rotate_left
  · dsimp only
    refine RG.ite (fun h3 => RG.fin rfl (Rend.run 1 (run_callVh (r := (1 : Int32)) rfl rfl rfl rfl rfl h1 rfl (by rw [h3]; rfl)))) (fun h3 => ?_)
    refine RG.ite (fun h4 => RG.fin rfl (Rend.run 1 (run_callVh (r := (2 : Int32)) rfl rfl rfl rfl rfl h1 rfl (by rw [h4]; rfl)))) (fun h4 => ?_)
    exact RG.none
  · show RG C_L_root (6, [some (.ref 0), some (.int v1), some (.int v2), none], [], M1, 1) _ _
    exact RG.fin rfl (Rend.run 3 (congrFun (congrFun (congrFun b_L_root_1 v1) v2) M1))
def fn_L_root : Fn := fun av M => match av with
  | [.ref r0, .int v1, .int v2] => bif Nat.beq r0 0 then (d_L_root v1 v2 M) else (none)
  | _ => none
theorem cfg_L_root : CfgOK RL cL_root (C_L_root) 7 := ⟨tk_L_root, csF_nd, flk_L, (List.forall_mem_cons.mpr ⟨Or.inr ⟨yX7_root, cX7_root, 3, none, none, 6, ok_X7_root, by decide, by decide, w_code_Sumsetry_root__II_V, w_initialized_Sumsetry, ⟨by decide, by decide⟩, Or.inr (Or.inr ⟨rfl, rfl, show (parseMethodDescriptor yX7_root.desc).map (fun d => d.parameters.length + 1) = some 3 from by decide +kernel, w_methodLink_SumsetryLaw_102, w_instanceMethod_Sumsetry_root__II_V, w_selects_Sumsetry_root__II_V, ⟨_, rfl, rfl⟩⟩)⟩, fun _ h => absurd h List.not_mem_nil⟩), ink_L, lgk_L, fun e h => absurd h List.not_mem_nil, (List.forall_mem_cons.mpr ⟨⟨by decide, w_classLink_SumsetryLaw_13, by decide⟩, List.forall_mem_cons.mpr ⟨⟨by decide, w_classLink_SumsetryLaw_25, by decide⟩, fun _ h => absurd h List.not_mem_nil⟩⟩)⟩
theorem ok_L_root : OkM csF yL_root (Cond.codeWith yL_root cL_root 4 (some .int) [(0, 6, 9, 13), (0, 6, 12, 25)]) 7 1 fn_L_root :=
  OkM_ofH (own := RL) (C := C_L_root) (hh := [(0, 6, 9, 13), (0, 6, 12, 25)]) (by decide +kernel) rfl (cfg_L_root) rfl rfl rfl rfl (by
    intro av M o M' h
    unfold fn_L_root at h
    split at h
    · rename_i r0 v1 v2
      rcases bif_cs h with ⟨hb, h⟩ | ⟨-, h⟩
      · skip
        have hr0 := hb
        obtain rfl := Nat.eq_of_beq_eq_true hr0
        exact ⟨rfl, Nat.le_of_ble_eq_true rfl, (r_L_root v1 v2 M) (o, M') h⟩
      · cases h
    · cases h)
