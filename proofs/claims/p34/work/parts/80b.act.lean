/-! THE LAW: act -/
theorem cl_100 : CallOK RL csF 8 (100, 0, 0, 3, 1, (fnR C_L_root 3)) :=
  Or.inr ⟨yL_root, cL_root, 3, (some .int), none, 7, ok_L_root, by decide, by decide, v_code_SumsetryLaw_root__LSumsetry_II_I, v_initialized_SumsetryLaw, ⟨by decide, by decide⟩, Or.inl ⟨rfl, show (parseMethodDescriptor yL_root.desc).map (fun d => d.parameters.length) = some 3 from by decide +kernel, v_methodLink_SumsetryLaw_100, v_static_SumsetryLaw_root__LSumsetry_II_I⟩⟩
def t_L_act : List (Nat × Instr × Nat) := [(0, .lload_n 2, 1), (1, .l2i, 1), (2, .istore 7, 2), (4, .iload_n 1, 1), (5, .ifCond .ne 15, 3), (8, .aload_n 0, 1), (9, .iload 7, 2), (11, .iload 4, 2), (13, .invokevirtual 13, 3), (16, .i2l, 1), (17, .goto 501, 3), (20, .iload_n 1, 1), (21, .iconst 1, 1), (22, .if_icmp .ne 26, 3), (25, .aload_n 0, 1), (26, .iload 7, 2), (28, .iload 4, 2), (30, .iload 5, 2), (32, .iconst 1, 1), (33, .if_icmp .ne 7, 3), (36, .iconst 1, 1), (37, .goto 4, 3), (40, .iconst 0, 1), (41, .invokevirtual 17, 3), (44, .i2l, 1), (45, .goto 473, 3), (48, .iload_n 1, 1), (49, .iconst 2, 1), (50, .if_icmp .ne 12, 3), (53, .aload_n 0, 1), (54, .lload_n 2, 1), (55, .invokevirtual 21, 3), (58, .i2l, 1), (59, .goto 459, 3), (62, .iload_n 1, 1), (63, .iconst 3, 1), (64, .if_icmp .ne 17, 3), (67, .aload_n 0, 1), (68, .iload 7, 2), (70, .iload 4, 2), (72, .iload 5, 2), (74, .invokevirtual 25, 3), (77, .i2l, 1), (78, .goto 440, 3), (81, .iload_n 1, 1), (82, .iconst 4, 1), (83, .if_icmp .ne 17, 3), (86, .aload_n 0, 1), (87, .iload 7, 2), (89, .iload 4, 2), (91, .iload 5, 2), (93, .invokevirtual 29, 3), (96, .i2l, 1), (97, .goto 421, 3), (100, .iload_n 1, 1), (101, .iconst 5, 1), (102, .if_icmp .ne 12, 3), (105, .aload_n 0, 1), (106, .iload 7, 2), (108, .invokevirtual 32, 3), (111, .goto 407, 3), (114, .iload_n 1, 1), (115, .bipush 6, 2), (117, .if_icmp .ne 17, 3), (120, .aload_n 0, 1), (121, .iload 7, 2), (123, .iload 4, 2), (125, .iload 5, 2), (127, .invokevirtual 36, 3), (130, .i2l, 1), (131, .goto 387, 3), (134, .iload_n 1, 1), (135, .bipush 7, 2), (137, .if_icmp .ne 16, 3), (140, .aload_n 0, 1), (141, .iload 7, 2), (143, .iload 4, 2), (145, .iload 5, 2), (147, .invokevirtual 39, 3), (150, .goto 368, 3), (153, .iload_n 1, 1), (154, .bipush 8, 2), (156, .if_icmp .ne 15, 3), (159, .aload_n 0, 1), (160, .iload 7, 2), (162, .iload 4, 2), (164, .invokevirtual 43, 3), (167, .i2l, 1), (168, .goto 350, 3), (171, .iload_n 1, 1), (172, .bipush 9, 2), (174, .if_icmp .ne 15, 3), (177, .aload_n 0, 1), (178, .iload 7, 2), (180, .iload 4, 2), (182, .invokevirtual 46, 3), (185, .i2l, 1), (186, .goto 332, 3), (189, .iload_n 1, 1), (190, .bipush 10, 2), (192, .if_icmp .ne 12, 3), (195, .aload_n 0, 1), (196, .iload 7, 2), (198, .invokevirtual 49, 3), (201, .goto 317, 3), (204, .iload_n 1, 1), (205, .bipush 11, 2), (207, .if_icmp .ne 15, 3), (210, .aload_n 0, 1), (211, .iload 7, 2), (213, .iload 4, 2), (215, .invokevirtual 52, 3), (218, .i2l, 1), (219, .goto 299, 3), (222, .iload_n 1, 1), (223, .bipush 12, 2), (225, .if_icmp .ne 17, 3), (228, .aload_n 0, 1), (229, .iload 7, 2), (231, .iload 4, 2), (233, .iload 5, 2), (235, .invokevirtual 55, 3), (238, .i2l, 1), (239, .goto 279, 3), (242, .iload_n 1, 1), (243, .bipush 13, 2), (245, .if_icmp .ne 14, 3), (248, .aload_n 0, 1), (249, .iload 7, 2), (251, .iload 4, 2), (253, .invokevirtual 58, 3), (256, .goto 262, 3), (259, .iload_n 1, 1), (260, .bipush 14, 2), (262, .if_icmp .ne 14, 3), (265, .aload_n 0, 1), (266, .iload 7, 2), (268, .iload 4, 2), (270, .invokevirtual 62, 3), (273, .goto 245, 3), (276, .iload_n 1, 1), (277, .bipush 15, 2), (279, .if_icmp .ne 13, 3), (282, .aload_n 0, 1), (283, .iload 7, 2), (285, .invokevirtual 65, 3), (288, .i2l, 1), (289, .goto 229, 3), (292, .iload_n 1, 1), (293, .bipush 16, 2), (295, .if_icmp .ne 12, 3), (298, .aload_n 0, 1), (299, .iload 7, 2), (301, .invokevirtual 69, 3), (304, .goto 214, 3), (307, .iload_n 1, 1), (308, .bipush 17, 2), (310, .if_icmp .ne 19, 3), (313, .aload_n 0, 1), (314, .iload 7, 2), (316, .iload 4, 2), (318, .iload 5, 2), (320, .iload 6, 2), (322, .invokevirtual 72, 3), (325, .i2l, 1), (326, .goto 192, 3), (329, .iload_n 1, 1), (330, .bipush 18, 2), (332, .if_icmp .ne 17, 3), (335, .aload_n 0, 1), (336, .iload 7, 2), (338, .iload 4, 2), (340, .iload 5, 2), (342, .invokevirtual 76, 3), (345, .i2l, 1), (346, .goto 172, 3), (349, .iload_n 1, 1), (350, .bipush 19, 2), (352, .if_icmp .ne 23, 3), (355, .aload_n 0, 1), (356, .iload 7, 2), (358, .iload 4, 2), (360, .invokevirtual 79, 3), (363, .ifCond .eq 7, 3), (366, .iconst 1, 1), (367, .goto 4, 3), (370, .iconst 0, 1), (371, .i2l, 1), (372, .goto 146, 3), (375, .iload_n 1, 1), (376, .bipush 20, 2), (378, .if_icmp .ne 14, 3), (381, .aload_n 0, 1), (382, .iload 7, 2), (384, .iload 4, 2), (386, .invokevirtual 83, 3), (389, .goto 129, 3), (392, .iload_n 1, 1), (393, .bipush 21, 2), (395, .if_icmp .ne 14, 3), (398, .aload_n 0, 1), (399, .iload 7, 2), (401, .iload 4, 2), (403, .invokevirtual 86, 3), (406, .goto 112, 3), (409, .iload_n 1, 1), (410, .bipush 22, 2), (412, .if_icmp .ne 13, 3), (415, .aload_n 0, 1), (416, .iload 4, 2), (418, .lload_n 2, 1), (419, .invokevirtual 89, 3), (422, .goto 96, 3), (425, .iload_n 1, 1), (426, .bipush 23, 2), (428, .if_icmp .ne 13, 3), (431, .aload_n 0, 1), (432, .iload 7, 2), (434, .invokevirtual 93, 3), (437, .i2l, 1), (438, .goto 80, 3), (441, .iload_n 1, 1), (442, .bipush 24, 2), (444, .if_icmp .ne 11, 3), (447, .aload_n 0, 1), (448, .invokevirtual 96, 3), (451, .i2l, 1), (452, .goto 66, 3), (455, .iload_n 1, 1), (456, .bipush 25, 2), (458, .if_icmp .ne 15, 3), (461, .aload_n 0, 1), (462, .iload 7, 2), (464, .iload 4, 2), (466, .invokestatic 100, 3), (469, .i2l, 1), (470, .goto 48, 3), (473, .iload_n 1, 1), (474, .bipush 26, 2), (476, .if_icmp .ne 15, 3), (479, .aload_n 0, 1), (480, .iload 7, 2), (482, .iload 4, 2), (484, .invokevirtual 105, 3), (487, .i2l, 1), (488, .goto 30, 3), (491, .iload_n 1, 1), (492, .bipush 27, 2), (494, .if_icmp .ne 17, 3), (497, .aload_n 0, 1), (498, .iload 7, 2), (500, .iload 4, 2), (502, .iload 5, 2), (504, .invokevirtual 108, 3), (507, .i2l, 1), (508, .goto 10, 3), (511, .aload_n 0, 1), (512, .iload 7, 2), (514, .invokevirtual 111, 3), (517, .i2l, 1), (518, .lreturn, 1), (519, .astore 8, 2), (521, .ldc2_w 116, 3), (524, .lreturn, 1), (525, .astore 8, 2), (527, .ldc2_w 120, 3), (530, .lreturn, 1), (531, .astore 8, 2), (533, .ldc2_w 124, 3), (536, .lreturn, 1)]
theorem tk_L_act : ∀ x ∈ t_L_act, decode cL_act x.1 = .ok x.2 := by decide +kernel
noncomputable def C_L_act : Cfg := (t_L_act, csF, fl_L, [(13, 2, 5, 3, 1, fn_X7_group), (17, 2, 5, 4, 2, fn_X7_add), (21, 2, 5, 2, 1, fn_X7_set), (25, 2, 5, 4, 3, fn_X7_combine), (29, 2, 5, 4, 3, fn_X7_move), (32, 2, 5, 2, 1, fn_X7_elements), (36, 2, 5, 4, 3, fn_X7_ways), (39, 2, 5, 4, 3, fn_X7_popular), (43, 2, 5, 3, 2, fn_X7_energy), (46, 2, 5, 3, 2, fn_X7_energyAnew), (49, 2, 5, 2, 1, fn_X7_stabilizer), (52, 2, 5, 3, 2, fn_X7_excess), (55, 2, 5, 4, 3, fn_X7_slack), (58, 2, 5, 3, 2, fn_X7_cover), (62, 2, 5, 3, 2, fn_X7_sums), (65, 2, 5, 2, 1, fn_X7_order), (69, 2, 5, 2, 1, fn_X7_essential), (72, 2, 5, 5, 4, fn_X7_image), (76, 2, 5, 4, 3, fn_X7_maps), (79, 2, 5, 3, 2, fn_X7_keeps), (83, 2, 5, 3, 3, fn_X7_greatest), (86, 2, 5, 3, 3, fn_X7_greatestAnew), (89, 2, 5, 3, 2, fn_X7_wins), (93, 2, 5, 2, 2, fn_X7_put), (96, 2, 5, 1, 1, fn_X7_constant), (100, 0, 0, 3, 1, (fnR C_L_root 3)), (105, 2, 5, 3, 2, fn_X7_transform), (108, 2, 5, 4, 4, fn_X7_waysAnew), (111, 2, 5, 2, 1, fn_X7_of)], in_L, lg_L, [], [(4, 518, 519, 114, "java/lang/IndexOutOfBoundsException"), (4, 518, 525, 118, "java/lang/IllegalArgumentException"), (4, 518, 531, 122, "java/lang/IllegalStateException")], none, (some .long), 4)
theorem cfg_L_act : CfgOK RL cL_act C_L_act 24 := ⟨tk_L_act, csF_nd, flk_L, (List.forall_mem_cons.mpr ⟨cl_13.up (by decide), List.forall_mem_cons.mpr ⟨cl_17.up (by decide), List.forall_mem_cons.mpr ⟨cl_21.up (by decide), List.forall_mem_cons.mpr ⟨cl_25.up (by decide), List.forall_mem_cons.mpr ⟨cl_29.up (by decide), List.forall_mem_cons.mpr ⟨cl_32.up (by decide), List.forall_mem_cons.mpr ⟨cl_36.up (by decide), List.forall_mem_cons.mpr ⟨cl_39.up (by decide), List.forall_mem_cons.mpr ⟨cl_43.up (by decide), List.forall_mem_cons.mpr ⟨cl_46.up (by decide), List.forall_mem_cons.mpr ⟨cl_49.up (by decide), List.forall_mem_cons.mpr ⟨cl_52.up (by decide), List.forall_mem_cons.mpr ⟨cl_55.up (by decide), List.forall_mem_cons.mpr ⟨cl_58.up (by decide), List.forall_mem_cons.mpr ⟨cl_62.up (by decide), List.forall_mem_cons.mpr ⟨cl_65.up (by decide), List.forall_mem_cons.mpr ⟨cl_69.up (by decide), List.forall_mem_cons.mpr ⟨cl_72.up (by decide), List.forall_mem_cons.mpr ⟨cl_76.up (by decide), List.forall_mem_cons.mpr ⟨cl_79.up (by decide), List.forall_mem_cons.mpr ⟨cl_83.up (by decide), List.forall_mem_cons.mpr ⟨cl_86.up (by decide), List.forall_mem_cons.mpr ⟨cl_89.up (by decide), List.forall_mem_cons.mpr ⟨cl_93.up (by decide), List.forall_mem_cons.mpr ⟨cl_96.up (by decide), List.forall_mem_cons.mpr ⟨cl_100.up (by decide), List.forall_mem_cons.mpr ⟨cl_105.up (by decide), List.forall_mem_cons.mpr ⟨cl_108.up (by decide), List.forall_mem_cons.mpr ⟨cl_111.up (by decide), fun _ h => absurd h List.not_mem_nil⟩⟩⟩⟩⟩⟩⟩⟩⟩⟩⟩⟩⟩⟩⟩⟩⟩⟩⟩⟩⟩⟩⟩⟩⟩⟩⟩⟩⟩), ink_L, lgk_L, fun e h => absurd h List.not_mem_nil, (List.forall_mem_cons.mpr ⟨⟨by decide, v_classLink_SumsetryLaw_114, by decide⟩, List.forall_mem_cons.mpr ⟨⟨by decide, v_classLink_SumsetryLaw_118, by decide⟩, List.forall_mem_cons.mpr ⟨⟨by decide, v_classLink_SumsetryLaw_122, by decide⟩, fun _ h => absurd h List.not_mem_nil⟩⟩⟩)⟩
theorem ok_L_act : OkM csF yL_act (Cond.codeWith yL_act cL_act 9 (some .long) [(4, 518, 519, 114), (4, 518, 525, 118), (4, 518, 531, 122)]) 24 4 (fnR C_L_act 9) := OkM_ofH (own := RL) (C := C_L_act) (hh := [(4, 518, 519, 114), (4, 518, 525, 118), (4, 518, 531, 122)]) (by decide +kernel) rfl cfg_L_act rfl rfl rfl rfl fnR_ok
def cdX : Nat → Int64
  | 1 => -7000001
  | 2 => -7000002
  | _ => -7000003
def cvA : Ans → Ans
  | (.inl (some (.int v)), s) => (.inl (some (.long v.toInt64)), s)
  | (.inr k, s) => (.inl (some (.long (cdX k))), s)
  | x => x
def actP (w : Nat) (a : Int64) (b c d : Int32) (s : HS) : Ans := match w with
  | 0 => p_group a.toInt32 b s
  | 1 => p_add a.toInt32 b (if c = 1 then 1 else 0) s
  | 2 => p_set a s
  | 3 => p_combine a.toInt32 b c s
  | 4 => p_move a.toInt32 b c s
  | 5 => p_elements a.toInt32 s
  | 6 => p_ways a.toInt32 b c s
  | 7 => p_popular a.toInt32 b c s
  | 8 => p_energy a.toInt32 b s
  | 9 => p_energyAnew a.toInt32 b s
  | 10 => p_stabilizer a.toInt32 s
  | 11 => p_excess a.toInt32 b s
  | 12 => p_slack a.toInt32 b c s
  | 13 => p_cover a.toInt32 b s
  | 14 => p_sums a.toInt32 b s
  | 15 => p_order a.toInt32 s
  | 16 => p_essential a.toInt32 s
  | 17 => p_image a.toInt32 b c d s
  | 18 => p_maps a.toInt32 b c s
  | 19 => p_keeps a.toInt32 b s
  | 20 => p_greatest a.toInt32 b s
  | 21 => p_greatest a.toInt32 b s
  | 22 => p_wins b a s
  | 23 => p_put a.toInt32 s
  | 24 => p_constant s
  | 25 => p_Lroot a.toInt32 b s
  | 26 => p_transform a.toInt32 b s
  | 27 => p_waysAnew a.toInt32 b c s
  | _ => p_of a.toInt32 s
def q_act : Fn2 := fun av s => match av with
  | [.ref r0, .int w, .long a, .int b, .int c, .int d] => bif Nat.beq r0 0 && Nat.ble w.toBitVec.toNat 28 then some (cvA (actP w.toBitVec.toNat a b c d s)) else none
  | _ => none
theorem fo_group (v1 v2 : Int32) (s : HS) : IsI (p_group v1 v2 s) := by
  unfold p_group
  repeat (first | exact IsI.X _ _ | exact IsI.K _ _ | exact IsI.I _ _ | refine any_onS (P := IsI) (fun _ => ?_) ?_ | refine any_onE (P := IsI) (fun _ => ?_) ?_ | refine any_onO (P := IsI) (fun _ => ?_) ?_ | refine any_bif (P := IsI) ?_ ?_)
theorem fo_add (v1 v2 v3 : Int32) (s : HS) : IsI (p_add v1 v2 v3 s) := by
  unfold p_add
  repeat (first | exact IsI.X _ _ | exact IsI.K _ _ | exact IsI.I _ _ | refine any_onS (P := IsI) (fun _ => ?_) ?_ | refine any_onE (P := IsI) (fun _ => ?_) ?_ | refine any_onO (P := IsI) (fun _ => ?_) ?_ | refine any_bif (P := IsI) ?_ ?_)
theorem fo_set (v1 : Int64) (s : HS) : IsI (p_set v1 s) := any_bif (IsI.X 2 s) (IsI.K s _)
theorem fo_combine (v1 v2 v3 : Int32) (s : HS) : IsI (p_combine v1 v2 v3 s) := by
  unfold p_combine
  repeat (first | exact IsI.X _ _ | exact IsI.K _ _ | exact IsI.I _ _ | refine any_onS (P := IsI) (fun _ => ?_) ?_ | refine any_onE (P := IsI) (fun _ => ?_) ?_ | refine any_onO (P := IsI) (fun _ => ?_) ?_ | refine any_bif (P := IsI) ?_ ?_)
theorem fo_move (v1 v2 v3 : Int32) (s : HS) : IsI (p_move v1 v2 v3 s) := by
  unfold p_move
  repeat (first | exact IsI.X _ _ | exact IsI.K _ _ | exact IsI.I _ _ | refine any_onS (P := IsI) (fun _ => ?_) ?_ | refine any_onE (P := IsI) (fun _ => ?_) ?_ | refine any_onO (P := IsI) (fun _ => ?_) ?_ | refine any_bif (P := IsI) ?_ ?_)
theorem fo_elements (v1 : Int32) (s : HS) : IsL (p_elements v1 s) := by
  unfold p_elements
  repeat (first | exact IsL.X _ _ | exact IsL.L _ _ | exact IsL.L _ _ | refine any_onS (P := IsL) (fun _ => ?_) ?_ | refine any_onE (P := IsL) (fun _ => ?_) ?_ | refine any_onO (P := IsL) (fun _ => ?_) ?_ | refine any_bif (P := IsL) ?_ ?_)
theorem fo_ways (v1 v2 v3 : Int32) (s : HS) : IsI (p_ways v1 v2 v3 s) := by
  unfold p_ways
  repeat (first | exact IsI.X _ _ | exact IsI.K _ _ | exact IsI.I _ _ | refine any_onS (P := IsI) (fun _ => ?_) ?_ | refine any_onE (P := IsI) (fun _ => ?_) ?_ | refine any_onO (P := IsI) (fun _ => ?_) ?_ | refine any_bif (P := IsI) ?_ ?_)
theorem fo_popular (v1 v2 v3 : Int32) (s : HS) : IsL (p_popular v1 v2 v3 s) := by
  unfold p_popular
  repeat (first | exact IsL.X _ _ | exact IsL.L _ _ | exact IsL.L _ _ | refine any_onS (P := IsL) (fun _ => ?_) ?_ | refine any_onE (P := IsL) (fun _ => ?_) ?_ | refine any_onO (P := IsL) (fun _ => ?_) ?_ | refine any_bif (P := IsL) ?_ ?_)
theorem fo_energy (v1 v2 : Int32) (s : HS) : IsI (p_energy v1 v2 s) := by
  unfold p_energy
  repeat (first | exact IsI.X _ _ | exact IsI.K _ _ | exact IsI.I _ _ | refine any_onS (P := IsI) (fun _ => ?_) ?_ | refine any_onE (P := IsI) (fun _ => ?_) ?_ | refine any_onO (P := IsI) (fun _ => ?_) ?_ | refine any_bif (P := IsI) ?_ ?_)
theorem fo_energyAnew (v1 v2 : Int32) (s : HS) : IsI (p_energyAnew v1 v2 s) := by
  unfold p_energyAnew
  repeat (first | exact IsI.X _ _ | exact IsI.K _ _ | exact IsI.I _ _ | refine any_onS (P := IsI) (fun _ => ?_) ?_ | refine any_onE (P := IsI) (fun _ => ?_) ?_ | refine any_onO (P := IsI) (fun _ => ?_) ?_ | refine any_bif (P := IsI) ?_ ?_)
theorem fo_stabilizer (v1 : Int32) (s : HS) : IsL (p_stabilizer v1 s) := by
  unfold p_stabilizer
  repeat (first | exact IsL.X _ _ | exact IsL.L _ _ | exact IsL.L _ _ | refine any_onS (P := IsL) (fun _ => ?_) ?_ | refine any_onE (P := IsL) (fun _ => ?_) ?_ | refine any_onO (P := IsL) (fun _ => ?_) ?_ | refine any_bif (P := IsL) ?_ ?_)
theorem fo_excess (v1 v2 : Int32) (s : HS) : IsI (p_excess v1 v2 s) := by
  unfold p_excess
  repeat (first | exact IsI.X _ _ | exact IsI.K _ _ | exact IsI.I _ _ | refine any_onS (P := IsI) (fun _ => ?_) ?_ | refine any_onE (P := IsI) (fun _ => ?_) ?_ | refine any_onO (P := IsI) (fun _ => ?_) ?_ | refine any_bif (P := IsI) ?_ ?_)
theorem fo_slack (v1 v2 v3 : Int32) (s : HS) : IsI (p_slack v1 v2 v3 s) := by
  unfold p_slack
  repeat (first | exact IsI.X _ _ | exact IsI.K _ _ | exact IsI.I _ _ | refine any_onS (P := IsI) (fun _ => ?_) ?_ | refine any_onE (P := IsI) (fun _ => ?_) ?_ | refine any_onO (P := IsI) (fun _ => ?_) ?_ | refine any_bif (P := IsI) ?_ ?_)
theorem fo_cover (v1 v2 : Int32) (s : HS) : IsL (p_cover v1 v2 s) := by
  unfold p_cover
  repeat (first | exact IsL.X _ _ | exact IsL.L _ _ | exact IsL.L _ _ | refine any_onS (P := IsL) (fun _ => ?_) ?_ | refine any_onE (P := IsL) (fun _ => ?_) ?_ | refine any_onO (P := IsL) (fun _ => ?_) ?_ | refine any_bif (P := IsL) ?_ ?_)
theorem fo_sums (v1 v2 : Int32) (s : HS) : IsL (p_sums v1 v2 s) := by
  unfold p_sums
  repeat (first | exact IsL.X _ _ | exact IsL.L _ _ | exact IsL.L _ _ | refine any_onS (P := IsL) (fun _ => ?_) ?_ | refine any_onE (P := IsL) (fun _ => ?_) ?_ | refine any_onO (P := IsL) (fun _ => ?_) ?_ | refine any_bif (P := IsL) ?_ ?_)
theorem fo_order (v1 : Int32) (s : HS) : IsI (p_order v1 s) := by
  unfold p_order
  repeat (first | exact IsI.X _ _ | exact IsI.K _ _ | exact IsI.I _ _ | refine any_onS (P := IsI) (fun _ => ?_) ?_ | refine any_onE (P := IsI) (fun _ => ?_) ?_ | refine any_onO (P := IsI) (fun _ => ?_) ?_ | refine any_bif (P := IsI) ?_ ?_)
theorem fo_essential (v1 : Int32) (s : HS) : IsL (p_essential v1 s) := by
  unfold p_essential
  repeat (first | exact IsL.X _ _ | exact IsL.L _ _ | exact IsL.L _ _ | refine any_onS (P := IsL) (fun _ => ?_) ?_ | refine any_onE (P := IsL) (fun _ => ?_) ?_ | refine any_onO (P := IsL) (fun _ => ?_) ?_ | refine any_bif (P := IsL) ?_ ?_)
theorem fo_image (v1 v2 v3 v4 : Int32) (s : HS) : IsI (p_image v1 v2 v3 v4 s) := by
  unfold p_image
  repeat (first | exact IsI.X _ _ | exact IsI.K _ _ | exact IsI.I _ _ | refine any_onS (P := IsI) (fun _ => ?_) ?_ | refine any_onE (P := IsI) (fun _ => ?_) ?_ | refine any_onO (P := IsI) (fun _ => ?_) ?_ | refine any_bif (P := IsI) ?_ ?_)
theorem fo_maps (v1 v2 v3 : Int32) (s : HS) : IsI (p_maps v1 v2 v3 s) := by
  unfold p_maps
  repeat (first | exact IsI.X _ _ | exact IsI.K _ _ | exact IsI.I _ _ | refine any_onS (P := IsI) (fun _ => ?_) ?_ | refine any_onE (P := IsI) (fun _ => ?_) ?_ | refine any_onO (P := IsI) (fun _ => ?_) ?_ | refine any_bif (P := IsI) ?_ ?_)
theorem fo_keeps (v1 v2 : Int32) (s : HS) : IsI (p_keeps v1 v2 s) := by
  unfold p_keeps
  repeat (first | exact IsI.X _ _ | exact IsI.K _ _ | exact IsI.I _ _ | refine any_onS (P := IsI) (fun _ => ?_) ?_ | refine any_onE (P := IsI) (fun _ => ?_) ?_ | refine any_onO (P := IsI) (fun _ => ?_) ?_ | refine any_bif (P := IsI) ?_ ?_)
theorem fo_greatest (v1 v2 : Int32) (s : HS) : IsL (p_greatest v1 v2 s) := by
  unfold p_greatest
  repeat (first | exact IsL.X _ _ | exact IsL.L _ _ | exact IsL.L _ _ | refine any_onS (P := IsL) (fun _ => ?_) ?_ | refine any_onE (P := IsL) (fun _ => ?_) ?_ | refine any_onO (P := IsL) (fun _ => ?_) ?_ | refine any_bif (P := IsL) ?_ ?_)
theorem fo_wins (v1 : Int32) (v2 : Int64) (s : HS) : IsL (p_wins v1 v2 s) := by
  unfold p_wins
  repeat (first | exact IsL.X _ _ | exact IsL.L _ _ | exact IsL.L _ _ | refine any_onS (P := IsL) (fun _ => ?_) ?_ | refine any_onE (P := IsL) (fun _ => ?_) ?_ | refine any_onO (P := IsL) (fun _ => ?_) ?_ | refine any_bif (P := IsL) ?_ ?_)
theorem fo_put (v1 : Int32) (s : HS) : IsI (p_put v1 s) := by
  unfold p_put
  repeat (first | exact IsI.X _ _ | exact IsI.K _ _ | exact IsI.I _ _ | refine any_onS (P := IsI) (fun _ => ?_) ?_ | refine any_onE (P := IsI) (fun _ => ?_) ?_ | refine any_onO (P := IsI) (fun _ => ?_) ?_ | refine any_bif (P := IsI) ?_ ?_)
theorem fo_constant  (s : HS) : IsI (p_constant  s) := by
  unfold p_constant
  repeat (first | exact IsI.X _ _ | exact IsI.K _ _ | exact IsI.I _ _ | refine any_onS (P := IsI) (fun _ => ?_) ?_ | refine any_onE (P := IsI) (fun _ => ?_) ?_ | refine any_onO (P := IsI) (fun _ => ?_) ?_ | refine any_bif (P := IsI) ?_ ?_)
theorem fo_Lroot (v1 v2 : Int32) (s : HS) : IsI (p_Lroot v1 v2 s) := by
  unfold p_Lroot
  cases p_root v1 v2 s with
  | mk y s' => cases y with
    | inl v => exact IsI.I 1 s'
    | inr k => exact Or.inl ⟨k, rfl⟩
theorem fo_transform (v1 v2 : Int32) (s : HS) : IsI (p_transform v1 v2 s) := by
  unfold p_transform
  repeat (first | exact IsI.X _ _ | exact IsI.K _ _ | exact IsI.I _ _ | refine any_onS (P := IsI) (fun _ => ?_) ?_ | refine any_onE (P := IsI) (fun _ => ?_) ?_ | refine any_onO (P := IsI) (fun _ => ?_) ?_ | refine any_bif (P := IsI) ?_ ?_)
theorem fo_waysAnew (v1 v2 v3 : Int32) (s : HS) : IsI (p_waysAnew v1 v2 v3 s) := by
  unfold p_waysAnew
  repeat (first | exact IsI.X _ _ | exact IsI.K _ _ | exact IsI.I _ _ | refine any_onS (P := IsI) (fun _ => ?_) ?_ | refine any_onE (P := IsI) (fun _ => ?_) ?_ | refine any_onO (P := IsI) (fun _ => ?_) ?_ | refine any_bif (P := IsI) ?_ ?_)
theorem fo_of (v1 : Int32) (s : HS) : IsI (p_of v1 s) := by
  unfold p_of
  repeat (first | exact IsI.X _ _ | exact IsI.K _ _ | exact IsI.I _ _ | refine any_onS (P := IsI) (fun _ => ?_) ?_ | refine any_onE (P := IsI) (fun _ => ?_) ?_ | refine any_onO (P := IsI) (fun _ => ?_) ?_ | refine any_bif (P := IsI) ?_ ?_)
theorem run_app {C : Cfg} : ∀ (a b : Nat) (x y : St) (r : Option (St ⊕ Ou)), run C a x = some (.inl y) → run C b y = r → run C (a + b) x = r
  | 0, b, x, y, r, h, hb => by cases h; rw [Nat.zero_add]; exact hb
  | a + 1, b, x, y, r, h, hb => by
    unfold run at h
    rw [Nat.succ_add]
    unfold run
    split at h
    · rename_i z hz
      exact run_app a b z y r h hb
    · rename_i hne
      exact absurd h (hne y)
theorem act_go {M : Mem} {av : List Value} {x : Ans} {pc kd ci na mc mk : Nat} {lo : List (Option Value)} {st : List Value} {f : Fn} (hgo : Go (f (st.take na).reverse M) x) (hnb : nodbl av = true) (hle : (lo0 av).length ≤ 9)
    (hrun : ∃ n, run C_L_act n (ini 9 av M) = some (.inl (pc, lo, st, M, 0))) (hstp : stp C_L_act (pc, lo, st, M, 0) = doCall C_L_act mk (kd, ci, na, mc, f) pc lo st M 0)
    (hg : (Nat.ble na st.length && Nat.ble (catS (st.drop na)) 8 && Nat.beq (kd / 2) mk && Nat.ble (0 + mc) C_L_act.cap) = true) (hr : rcv C_L_act.cs mk ci (st.take na).reverse = true)
    (hx : ∀ k, hnd C_L_act lo.length pc (exT k) C_L_act.hs = some (some (.long (cdX k))))
    (hend : ∀ v M', x.1 = .inl v → ∃ n2 k2 y, run C_L_act n2 (pc + 3, lo, v.toList ++ st.drop na, M', 0 + mc) = some (.inr (.inl (some y), M', k2)) ∧ cvA x = (.inl (some y), x.2)) : Go (fnR C_L_act 9 av M) (cvA x) := by
  obtain ⟨M', e1, e2⟩ := hgo
  obtain ⟨n, hrun⟩ := hrun
  obtain ⟨x1, x2⟩ := x
  cases x1 with
  | inl v =>
    obtain ⟨n2, k2, y, h1, h2⟩ := hend v M' rfl
    rw [h2]
    exact ⟨M', fnR_eq hnb hle (run_app n _ _ _ _ hrun (run_app 1 n2 _ _ _ (run_1 (hstp.trans (call_ret hg hr e1))) h1)), e2⟩
  | inr k =>
    exact ⟨M', fnR_eq hnb hle (run_app n 1 _ _ _ hrun (run_1e (hstp.trans (call_cat hg hr e1 rfl (hx k))))), e2⟩
theorem act_I {x : Ans} {n2 pc mc : Nat} {lo : List (Option Value)} (hI : IsI x) (hb : ∀ (v : Int32) (M' : Mem), run C_L_act n2 (pc + 3, lo, [.int v], M', mc) = some (.inr (.inl (some (.long v.toInt64)), M', mc))) : ∀ (v : Option Value) (M' : Mem), x.1 = .inl v → ∃ n2 k2 y, run C_L_act n2 (pc + 3, lo, v.toList ++ [], M', mc) = some (.inr (.inl (some y), M', k2)) ∧ cvA x = (.inl (some y), x.2) := by
  intro v M' hv
  rcases hI with ⟨k, hk⟩ | ⟨w, hw⟩
  · rw [hk] at hv; cases hv
  · rw [hw] at hv
    cases hv
    refine ⟨n2, mc, _, hb w M', ?_⟩
    obtain ⟨x1, x2⟩ := x
    cases hw
    rfl
theorem act_L {x : Ans} {n2 pc mc : Nat} {lo : List (Option Value)} (hI : IsL x) (hb : ∀ (v : Int64) (M' : Mem), run C_L_act n2 (pc + 3, lo, [.long v], M', mc) = some (.inr (.inl (some (.long v)), M', mc))) : ∀ (v : Option Value) (M' : Mem), x.1 = .inl v → ∃ n2 k2 y, run C_L_act n2 (pc + 3, lo, v.toList ++ [], M', mc) = some (.inr (.inl (some y), M', k2)) ∧ cvA x = (.inl (some y), x.2) := by
  intro v M' hv
  rcases hI with ⟨k, hk⟩ | ⟨w, hw⟩
  · rw [hk] at hv; cases hv
  · rw [hw] at hv
    cases hv
    refine ⟨n2, mc, _, hb w M', ?_⟩
    obtain ⟨x1, x2⟩ := x
    cases hw
    rfl
theorem hnd_act {pc : Nat} (h1 : hnd C_L_act 9 pc "java/lang/IndexOutOfBoundsException" C_L_act.hs = some (some (.long (-7000001)))) (h2 : hnd C_L_act 9 pc "java/lang/IllegalArgumentException" C_L_act.hs = some (some (.long (-7000002)))) (h3 : hnd C_L_act 9 pc "java/lang/IllegalStateException" C_L_act.hs = some (some (.long (-7000003)))) : ∀ k, hnd C_L_act 9 pc (exT k) C_L_act.hs = some (some (.long (cdX k)))
  | 0 => h3
  | 1 => h1
  | 2 => h2
  | _ + 3 => h3
set_option maxRecDepth 100000 in
theorem ba_s : (fun (w : Int32) (a : Int64) (b : Int32) (c : Int32) (d : Int32) (M : Mem) => run C_L_act 3 (0, [some (.ref 0), some (.int w), some (.long a), none, some (.int b), some (.int c), some (.int d), none, none], [], M, 0)) = (fun (w : Int32) (a : Int64) (b : Int32) (c : Int32) (d : Int32) (M : Mem) => some (.inl (4, [some (.ref 0), some (.int w), some (.long a), none, some (.int b), some (.int c), some (.int d), some (.int a.toInt32), none], [], M, 0))) := by rfl
theorem to_0 (w : Int32) (a : Int64) (b c d : Int32) (M : Mem) : ∃ n, run C_L_act n (0, [some (.ref 0), some (.int w), some (.long a), none, some (.int b), some (.int c), some (.int d), none, none], [], M, 0) = some (.inl (4, [some (.ref 0), some (.int w), some (.long a), none, some (.int b), some (.int c), some (.int d), some (.int a.toInt32), none], [], M, 0)) := ⟨3, (congrFun (congrFun (congrFun (congrFun (congrFun (congrFun ba_s w) a) b) c) d) M)⟩
set_option maxRecDepth 100000 in
theorem bc_0 : (fun (w : Int32) (a : Int64) (b : Int32) (c : Int32) (d : Int32) (M : Mem) => run C_L_act 2 (4, [some (.ref 0), some (.int w), some (.long a), none, some (.int b), some (.int c), some (.int d), some (.int a.toInt32), none], [], M, 0)) = (fun (w : Int32) (a : Int64) (b : Int32) (c : Int32) (d : Int32) (M : Mem) => some (.inl ((br (!decide (w = 0)) 5 3 (15)), [some (.ref 0), some (.int w), some (.long a), none, some (.int b), some (.int c), some (.int d), some (.int a.toInt32), none], [], M, 0))) := by rfl
theorem to_1 (w : Int32) (h : Nat.ble 1 w.toBitVec.toNat = true) (a : Int64) (b c d : Int32) (M : Mem) : ∃ n, run C_L_act n (0, [some (.ref 0), some (.int w), some (.long a), none, some (.int b), some (.int c), some (.int d), none, none], [], M, 0) = some (.inl (20, [some (.ref 0), some (.int w), some (.long a), none, some (.int b), some (.int c), some (.int d), some (.int a.toInt32), none], [], M, 0)) := by
  obtain ⟨n, hn⟩ := to_0 w a b c d M
  have hw : ¬ (w = 0) := fun e => by
    subst e
    revert h
    decide
  exact ⟨n + 2, run_app n 2 _ _ _ hn ((congrFun (congrFun (congrFun (congrFun (congrFun (congrFun bc_0 w) a) b) c) d) M).trans (by rw [show (br (!decide (w = 0)) 5 3 (15)) = 20 from by unfold br; rw [decide_eq_false hw]; rfl]))⟩
set_option maxRecDepth 100000 in
theorem bc_1 : (fun (w : Int32) (a : Int64) (b : Int32) (c : Int32) (d : Int32) (M : Mem) => run C_L_act 3 (20, [some (.ref 0), some (.int w), some (.long a), none, some (.int b), some (.int c), some (.int d), some (.int a.toInt32), none], [], M, 0)) = (fun (w : Int32) (a : Int64) (b : Int32) (c : Int32) (d : Int32) (M : Mem) => some (.inl ((br (!decide (w = (1 : Int32))) 22 3 (26)), [some (.ref 0), some (.int w), some (.long a), none, some (.int b), some (.int c), some (.int d), some (.int a.toInt32), none], [], M, 0))) := by rfl
theorem to_2 (w : Int32) (h : Nat.ble 2 w.toBitVec.toNat = true) (a : Int64) (b c d : Int32) (M : Mem) : ∃ n, run C_L_act n (0, [some (.ref 0), some (.int w), some (.long a), none, some (.int b), some (.int c), some (.int d), none, none], [], M, 0) = some (.inl (48, [some (.ref 0), some (.int w), some (.long a), none, some (.int b), some (.int c), some (.int d), some (.int a.toInt32), none], [], M, 0)) := by
  obtain ⟨n, hn⟩ := to_1 w (Nat.ble_eq_true_of_le (Nat.le_of_succ_le (Nat.le_of_ble_eq_true h))) a b c d M
  have hw : ¬ (w = (1 : Int32)) := fun e => by
    subst e
    revert h
    decide
  exact ⟨n + 3, run_app n 3 _ _ _ hn ((congrFun (congrFun (congrFun (congrFun (congrFun (congrFun bc_1 w) a) b) c) d) M).trans (by rw [show (br (!decide (w = (1 : Int32))) 22 3 (26)) = 48 from by unfold br; rw [decide_eq_false hw]; rfl]))⟩
set_option maxRecDepth 100000 in
theorem bc_2 : (fun (w : Int32) (a : Int64) (b : Int32) (c : Int32) (d : Int32) (M : Mem) => run C_L_act 3 (48, [some (.ref 0), some (.int w), some (.long a), none, some (.int b), some (.int c), some (.int d), some (.int a.toInt32), none], [], M, 0)) = (fun (w : Int32) (a : Int64) (b : Int32) (c : Int32) (d : Int32) (M : Mem) => some (.inl ((br (!decide (w = (2 : Int32))) 50 3 (12)), [some (.ref 0), some (.int w), some (.long a), none, some (.int b), some (.int c), some (.int d), some (.int a.toInt32), none], [], M, 0))) := by rfl
theorem to_3 (w : Int32) (h : Nat.ble 3 w.toBitVec.toNat = true) (a : Int64) (b c d : Int32) (M : Mem) : ∃ n, run C_L_act n (0, [some (.ref 0), some (.int w), some (.long a), none, some (.int b), some (.int c), some (.int d), none, none], [], M, 0) = some (.inl (62, [some (.ref 0), some (.int w), some (.long a), none, some (.int b), some (.int c), some (.int d), some (.int a.toInt32), none], [], M, 0)) := by
  obtain ⟨n, hn⟩ := to_2 w (Nat.ble_eq_true_of_le (Nat.le_of_succ_le (Nat.le_of_ble_eq_true h))) a b c d M
  have hw : ¬ (w = (2 : Int32)) := fun e => by
    subst e
    revert h
    decide
  exact ⟨n + 3, run_app n 3 _ _ _ hn ((congrFun (congrFun (congrFun (congrFun (congrFun (congrFun bc_2 w) a) b) c) d) M).trans (by rw [show (br (!decide (w = (2 : Int32))) 50 3 (12)) = 62 from by unfold br; rw [decide_eq_false hw]; rfl]))⟩
set_option maxRecDepth 100000 in
theorem bc_3 : (fun (w : Int32) (a : Int64) (b : Int32) (c : Int32) (d : Int32) (M : Mem) => run C_L_act 3 (62, [some (.ref 0), some (.int w), some (.long a), none, some (.int b), some (.int c), some (.int d), some (.int a.toInt32), none], [], M, 0)) = (fun (w : Int32) (a : Int64) (b : Int32) (c : Int32) (d : Int32) (M : Mem) => some (.inl ((br (!decide (w = (3 : Int32))) 64 3 (17)), [some (.ref 0), some (.int w), some (.long a), none, some (.int b), some (.int c), some (.int d), some (.int a.toInt32), none], [], M, 0))) := by rfl
theorem to_4 (w : Int32) (h : Nat.ble 4 w.toBitVec.toNat = true) (a : Int64) (b c d : Int32) (M : Mem) : ∃ n, run C_L_act n (0, [some (.ref 0), some (.int w), some (.long a), none, some (.int b), some (.int c), some (.int d), none, none], [], M, 0) = some (.inl (81, [some (.ref 0), some (.int w), some (.long a), none, some (.int b), some (.int c), some (.int d), some (.int a.toInt32), none], [], M, 0)) := by
  obtain ⟨n, hn⟩ := to_3 w (Nat.ble_eq_true_of_le (Nat.le_of_succ_le (Nat.le_of_ble_eq_true h))) a b c d M
  have hw : ¬ (w = (3 : Int32)) := fun e => by
    subst e
    revert h
    decide
  exact ⟨n + 3, run_app n 3 _ _ _ hn ((congrFun (congrFun (congrFun (congrFun (congrFun (congrFun bc_3 w) a) b) c) d) M).trans (by rw [show (br (!decide (w = (3 : Int32))) 64 3 (17)) = 81 from by unfold br; rw [decide_eq_false hw]; rfl]))⟩
set_option maxRecDepth 100000 in
theorem bc_4 : (fun (w : Int32) (a : Int64) (b : Int32) (c : Int32) (d : Int32) (M : Mem) => run C_L_act 3 (81, [some (.ref 0), some (.int w), some (.long a), none, some (.int b), some (.int c), some (.int d), some (.int a.toInt32), none], [], M, 0)) = (fun (w : Int32) (a : Int64) (b : Int32) (c : Int32) (d : Int32) (M : Mem) => some (.inl ((br (!decide (w = (4 : Int32))) 83 3 (17)), [some (.ref 0), some (.int w), some (.long a), none, some (.int b), some (.int c), some (.int d), some (.int a.toInt32), none], [], M, 0))) := by rfl
theorem to_5 (w : Int32) (h : Nat.ble 5 w.toBitVec.toNat = true) (a : Int64) (b c d : Int32) (M : Mem) : ∃ n, run C_L_act n (0, [some (.ref 0), some (.int w), some (.long a), none, some (.int b), some (.int c), some (.int d), none, none], [], M, 0) = some (.inl (100, [some (.ref 0), some (.int w), some (.long a), none, some (.int b), some (.int c), some (.int d), some (.int a.toInt32), none], [], M, 0)) := by
  obtain ⟨n, hn⟩ := to_4 w (Nat.ble_eq_true_of_le (Nat.le_of_succ_le (Nat.le_of_ble_eq_true h))) a b c d M
  have hw : ¬ (w = (4 : Int32)) := fun e => by
    subst e
    revert h
    decide
  exact ⟨n + 3, run_app n 3 _ _ _ hn ((congrFun (congrFun (congrFun (congrFun (congrFun (congrFun bc_4 w) a) b) c) d) M).trans (by rw [show (br (!decide (w = (4 : Int32))) 83 3 (17)) = 100 from by unfold br; rw [decide_eq_false hw]; rfl]))⟩
set_option maxRecDepth 100000 in
theorem bc_5 : (fun (w : Int32) (a : Int64) (b : Int32) (c : Int32) (d : Int32) (M : Mem) => run C_L_act 3 (100, [some (.ref 0), some (.int w), some (.long a), none, some (.int b), some (.int c), some (.int d), some (.int a.toInt32), none], [], M, 0)) = (fun (w : Int32) (a : Int64) (b : Int32) (c : Int32) (d : Int32) (M : Mem) => some (.inl ((br (!decide (w = (5 : Int32))) 102 3 (12)), [some (.ref 0), some (.int w), some (.long a), none, some (.int b), some (.int c), some (.int d), some (.int a.toInt32), none], [], M, 0))) := by rfl
theorem to_6 (w : Int32) (h : Nat.ble 6 w.toBitVec.toNat = true) (a : Int64) (b c d : Int32) (M : Mem) : ∃ n, run C_L_act n (0, [some (.ref 0), some (.int w), some (.long a), none, some (.int b), some (.int c), some (.int d), none, none], [], M, 0) = some (.inl (114, [some (.ref 0), some (.int w), some (.long a), none, some (.int b), some (.int c), some (.int d), some (.int a.toInt32), none], [], M, 0)) := by
  obtain ⟨n, hn⟩ := to_5 w (Nat.ble_eq_true_of_le (Nat.le_of_succ_le (Nat.le_of_ble_eq_true h))) a b c d M
  have hw : ¬ (w = (5 : Int32)) := fun e => by
    subst e
    revert h
    decide
  exact ⟨n + 3, run_app n 3 _ _ _ hn ((congrFun (congrFun (congrFun (congrFun (congrFun (congrFun bc_5 w) a) b) c) d) M).trans (by rw [show (br (!decide (w = (5 : Int32))) 102 3 (12)) = 114 from by unfold br; rw [decide_eq_false hw]; rfl]))⟩
set_option maxRecDepth 100000 in
theorem bc_6 : (fun (w : Int32) (a : Int64) (b : Int32) (c : Int32) (d : Int32) (M : Mem) => run C_L_act 3 (114, [some (.ref 0), some (.int w), some (.long a), none, some (.int b), some (.int c), some (.int d), some (.int a.toInt32), none], [], M, 0)) = (fun (w : Int32) (a : Int64) (b : Int32) (c : Int32) (d : Int32) (M : Mem) => some (.inl ((br (!decide (w = (6 : Int32))) 117 3 (17)), [some (.ref 0), some (.int w), some (.long a), none, some (.int b), some (.int c), some (.int d), some (.int a.toInt32), none], [], M, 0))) := by rfl
theorem to_7 (w : Int32) (h : Nat.ble 7 w.toBitVec.toNat = true) (a : Int64) (b c d : Int32) (M : Mem) : ∃ n, run C_L_act n (0, [some (.ref 0), some (.int w), some (.long a), none, some (.int b), some (.int c), some (.int d), none, none], [], M, 0) = some (.inl (134, [some (.ref 0), some (.int w), some (.long a), none, some (.int b), some (.int c), some (.int d), some (.int a.toInt32), none], [], M, 0)) := by
  obtain ⟨n, hn⟩ := to_6 w (Nat.ble_eq_true_of_le (Nat.le_of_succ_le (Nat.le_of_ble_eq_true h))) a b c d M
  have hw : ¬ (w = (6 : Int32)) := fun e => by
    subst e
    revert h
    decide
  exact ⟨n + 3, run_app n 3 _ _ _ hn ((congrFun (congrFun (congrFun (congrFun (congrFun (congrFun bc_6 w) a) b) c) d) M).trans (by rw [show (br (!decide (w = (6 : Int32))) 117 3 (17)) = 134 from by unfold br; rw [decide_eq_false hw]; rfl]))⟩
set_option maxRecDepth 100000 in
theorem bc_7 : (fun (w : Int32) (a : Int64) (b : Int32) (c : Int32) (d : Int32) (M : Mem) => run C_L_act 3 (134, [some (.ref 0), some (.int w), some (.long a), none, some (.int b), some (.int c), some (.int d), some (.int a.toInt32), none], [], M, 0)) = (fun (w : Int32) (a : Int64) (b : Int32) (c : Int32) (d : Int32) (M : Mem) => some (.inl ((br (!decide (w = (7 : Int32))) 137 3 (16)), [some (.ref 0), some (.int w), some (.long a), none, some (.int b), some (.int c), some (.int d), some (.int a.toInt32), none], [], M, 0))) := by rfl
theorem to_8 (w : Int32) (h : Nat.ble 8 w.toBitVec.toNat = true) (a : Int64) (b c d : Int32) (M : Mem) : ∃ n, run C_L_act n (0, [some (.ref 0), some (.int w), some (.long a), none, some (.int b), some (.int c), some (.int d), none, none], [], M, 0) = some (.inl (153, [some (.ref 0), some (.int w), some (.long a), none, some (.int b), some (.int c), some (.int d), some (.int a.toInt32), none], [], M, 0)) := by
  obtain ⟨n, hn⟩ := to_7 w (Nat.ble_eq_true_of_le (Nat.le_of_succ_le (Nat.le_of_ble_eq_true h))) a b c d M
  have hw : ¬ (w = (7 : Int32)) := fun e => by
    subst e
    revert h
    decide
  exact ⟨n + 3, run_app n 3 _ _ _ hn ((congrFun (congrFun (congrFun (congrFun (congrFun (congrFun bc_7 w) a) b) c) d) M).trans (by rw [show (br (!decide (w = (7 : Int32))) 137 3 (16)) = 153 from by unfold br; rw [decide_eq_false hw]; rfl]))⟩
set_option maxRecDepth 100000 in
theorem bc_8 : (fun (w : Int32) (a : Int64) (b : Int32) (c : Int32) (d : Int32) (M : Mem) => run C_L_act 3 (153, [some (.ref 0), some (.int w), some (.long a), none, some (.int b), some (.int c), some (.int d), some (.int a.toInt32), none], [], M, 0)) = (fun (w : Int32) (a : Int64) (b : Int32) (c : Int32) (d : Int32) (M : Mem) => some (.inl ((br (!decide (w = (8 : Int32))) 156 3 (15)), [some (.ref 0), some (.int w), some (.long a), none, some (.int b), some (.int c), some (.int d), some (.int a.toInt32), none], [], M, 0))) := by rfl
theorem to_9 (w : Int32) (h : Nat.ble 9 w.toBitVec.toNat = true) (a : Int64) (b c d : Int32) (M : Mem) : ∃ n, run C_L_act n (0, [some (.ref 0), some (.int w), some (.long a), none, some (.int b), some (.int c), some (.int d), none, none], [], M, 0) = some (.inl (171, [some (.ref 0), some (.int w), some (.long a), none, some (.int b), some (.int c), some (.int d), some (.int a.toInt32), none], [], M, 0)) := by
  obtain ⟨n, hn⟩ := to_8 w (Nat.ble_eq_true_of_le (Nat.le_of_succ_le (Nat.le_of_ble_eq_true h))) a b c d M
  have hw : ¬ (w = (8 : Int32)) := fun e => by
    subst e
    revert h
    decide
  exact ⟨n + 3, run_app n 3 _ _ _ hn ((congrFun (congrFun (congrFun (congrFun (congrFun (congrFun bc_8 w) a) b) c) d) M).trans (by rw [show (br (!decide (w = (8 : Int32))) 156 3 (15)) = 171 from by unfold br; rw [decide_eq_false hw]; rfl]))⟩
set_option maxRecDepth 100000 in
theorem bc_9 : (fun (w : Int32) (a : Int64) (b : Int32) (c : Int32) (d : Int32) (M : Mem) => run C_L_act 3 (171, [some (.ref 0), some (.int w), some (.long a), none, some (.int b), some (.int c), some (.int d), some (.int a.toInt32), none], [], M, 0)) = (fun (w : Int32) (a : Int64) (b : Int32) (c : Int32) (d : Int32) (M : Mem) => some (.inl ((br (!decide (w = (9 : Int32))) 174 3 (15)), [some (.ref 0), some (.int w), some (.long a), none, some (.int b), some (.int c), some (.int d), some (.int a.toInt32), none], [], M, 0))) := by rfl
theorem to_10 (w : Int32) (h : Nat.ble 10 w.toBitVec.toNat = true) (a : Int64) (b c d : Int32) (M : Mem) : ∃ n, run C_L_act n (0, [some (.ref 0), some (.int w), some (.long a), none, some (.int b), some (.int c), some (.int d), none, none], [], M, 0) = some (.inl (189, [some (.ref 0), some (.int w), some (.long a), none, some (.int b), some (.int c), some (.int d), some (.int a.toInt32), none], [], M, 0)) := by
  obtain ⟨n, hn⟩ := to_9 w (Nat.ble_eq_true_of_le (Nat.le_of_succ_le (Nat.le_of_ble_eq_true h))) a b c d M
  have hw : ¬ (w = (9 : Int32)) := fun e => by
    subst e
    revert h
    decide
  exact ⟨n + 3, run_app n 3 _ _ _ hn ((congrFun (congrFun (congrFun (congrFun (congrFun (congrFun bc_9 w) a) b) c) d) M).trans (by rw [show (br (!decide (w = (9 : Int32))) 174 3 (15)) = 189 from by unfold br; rw [decide_eq_false hw]; rfl]))⟩
set_option maxRecDepth 100000 in
theorem bc_10 : (fun (w : Int32) (a : Int64) (b : Int32) (c : Int32) (d : Int32) (M : Mem) => run C_L_act 3 (189, [some (.ref 0), some (.int w), some (.long a), none, some (.int b), some (.int c), some (.int d), some (.int a.toInt32), none], [], M, 0)) = (fun (w : Int32) (a : Int64) (b : Int32) (c : Int32) (d : Int32) (M : Mem) => some (.inl ((br (!decide (w = (10 : Int32))) 192 3 (12)), [some (.ref 0), some (.int w), some (.long a), none, some (.int b), some (.int c), some (.int d), some (.int a.toInt32), none], [], M, 0))) := by rfl
theorem to_11 (w : Int32) (h : Nat.ble 11 w.toBitVec.toNat = true) (a : Int64) (b c d : Int32) (M : Mem) : ∃ n, run C_L_act n (0, [some (.ref 0), some (.int w), some (.long a), none, some (.int b), some (.int c), some (.int d), none, none], [], M, 0) = some (.inl (204, [some (.ref 0), some (.int w), some (.long a), none, some (.int b), some (.int c), some (.int d), some (.int a.toInt32), none], [], M, 0)) := by
  obtain ⟨n, hn⟩ := to_10 w (Nat.ble_eq_true_of_le (Nat.le_of_succ_le (Nat.le_of_ble_eq_true h))) a b c d M
  have hw : ¬ (w = (10 : Int32)) := fun e => by
    subst e
    revert h
    decide
  exact ⟨n + 3, run_app n 3 _ _ _ hn ((congrFun (congrFun (congrFun (congrFun (congrFun (congrFun bc_10 w) a) b) c) d) M).trans (by rw [show (br (!decide (w = (10 : Int32))) 192 3 (12)) = 204 from by unfold br; rw [decide_eq_false hw]; rfl]))⟩
set_option maxRecDepth 100000 in
theorem bc_11 : (fun (w : Int32) (a : Int64) (b : Int32) (c : Int32) (d : Int32) (M : Mem) => run C_L_act 3 (204, [some (.ref 0), some (.int w), some (.long a), none, some (.int b), some (.int c), some (.int d), some (.int a.toInt32), none], [], M, 0)) = (fun (w : Int32) (a : Int64) (b : Int32) (c : Int32) (d : Int32) (M : Mem) => some (.inl ((br (!decide (w = (11 : Int32))) 207 3 (15)), [some (.ref 0), some (.int w), some (.long a), none, some (.int b), some (.int c), some (.int d), some (.int a.toInt32), none], [], M, 0))) := by rfl
theorem to_12 (w : Int32) (h : Nat.ble 12 w.toBitVec.toNat = true) (a : Int64) (b c d : Int32) (M : Mem) : ∃ n, run C_L_act n (0, [some (.ref 0), some (.int w), some (.long a), none, some (.int b), some (.int c), some (.int d), none, none], [], M, 0) = some (.inl (222, [some (.ref 0), some (.int w), some (.long a), none, some (.int b), some (.int c), some (.int d), some (.int a.toInt32), none], [], M, 0)) := by
  obtain ⟨n, hn⟩ := to_11 w (Nat.ble_eq_true_of_le (Nat.le_of_succ_le (Nat.le_of_ble_eq_true h))) a b c d M
  have hw : ¬ (w = (11 : Int32)) := fun e => by
    subst e
    revert h
    decide
  exact ⟨n + 3, run_app n 3 _ _ _ hn ((congrFun (congrFun (congrFun (congrFun (congrFun (congrFun bc_11 w) a) b) c) d) M).trans (by rw [show (br (!decide (w = (11 : Int32))) 207 3 (15)) = 222 from by unfold br; rw [decide_eq_false hw]; rfl]))⟩
set_option maxRecDepth 100000 in
theorem bc_12 : (fun (w : Int32) (a : Int64) (b : Int32) (c : Int32) (d : Int32) (M : Mem) => run C_L_act 3 (222, [some (.ref 0), some (.int w), some (.long a), none, some (.int b), some (.int c), some (.int d), some (.int a.toInt32), none], [], M, 0)) = (fun (w : Int32) (a : Int64) (b : Int32) (c : Int32) (d : Int32) (M : Mem) => some (.inl ((br (!decide (w = (12 : Int32))) 225 3 (17)), [some (.ref 0), some (.int w), some (.long a), none, some (.int b), some (.int c), some (.int d), some (.int a.toInt32), none], [], M, 0))) := by rfl
theorem to_13 (w : Int32) (h : Nat.ble 13 w.toBitVec.toNat = true) (a : Int64) (b c d : Int32) (M : Mem) : ∃ n, run C_L_act n (0, [some (.ref 0), some (.int w), some (.long a), none, some (.int b), some (.int c), some (.int d), none, none], [], M, 0) = some (.inl (242, [some (.ref 0), some (.int w), some (.long a), none, some (.int b), some (.int c), some (.int d), some (.int a.toInt32), none], [], M, 0)) := by
  obtain ⟨n, hn⟩ := to_12 w (Nat.ble_eq_true_of_le (Nat.le_of_succ_le (Nat.le_of_ble_eq_true h))) a b c d M
  have hw : ¬ (w = (12 : Int32)) := fun e => by
    subst e
    revert h
    decide
  exact ⟨n + 3, run_app n 3 _ _ _ hn ((congrFun (congrFun (congrFun (congrFun (congrFun (congrFun bc_12 w) a) b) c) d) M).trans (by rw [show (br (!decide (w = (12 : Int32))) 225 3 (17)) = 242 from by unfold br; rw [decide_eq_false hw]; rfl]))⟩
set_option maxRecDepth 100000 in
theorem bc_13 : (fun (w : Int32) (a : Int64) (b : Int32) (c : Int32) (d : Int32) (M : Mem) => run C_L_act 3 (242, [some (.ref 0), some (.int w), some (.long a), none, some (.int b), some (.int c), some (.int d), some (.int a.toInt32), none], [], M, 0)) = (fun (w : Int32) (a : Int64) (b : Int32) (c : Int32) (d : Int32) (M : Mem) => some (.inl ((br (!decide (w = (13 : Int32))) 245 3 (14)), [some (.ref 0), some (.int w), some (.long a), none, some (.int b), some (.int c), some (.int d), some (.int a.toInt32), none], [], M, 0))) := by rfl
theorem to_14 (w : Int32) (h : Nat.ble 14 w.toBitVec.toNat = true) (a : Int64) (b c d : Int32) (M : Mem) : ∃ n, run C_L_act n (0, [some (.ref 0), some (.int w), some (.long a), none, some (.int b), some (.int c), some (.int d), none, none], [], M, 0) = some (.inl (259, [some (.ref 0), some (.int w), some (.long a), none, some (.int b), some (.int c), some (.int d), some (.int a.toInt32), none], [], M, 0)) := by
  obtain ⟨n, hn⟩ := to_13 w (Nat.ble_eq_true_of_le (Nat.le_of_succ_le (Nat.le_of_ble_eq_true h))) a b c d M
  have hw : ¬ (w = (13 : Int32)) := fun e => by
    subst e
    revert h
    decide
  exact ⟨n + 3, run_app n 3 _ _ _ hn ((congrFun (congrFun (congrFun (congrFun (congrFun (congrFun bc_13 w) a) b) c) d) M).trans (by rw [show (br (!decide (w = (13 : Int32))) 245 3 (14)) = 259 from by unfold br; rw [decide_eq_false hw]; rfl]))⟩
set_option maxRecDepth 100000 in
theorem bc_14 : (fun (w : Int32) (a : Int64) (b : Int32) (c : Int32) (d : Int32) (M : Mem) => run C_L_act 3 (259, [some (.ref 0), some (.int w), some (.long a), none, some (.int b), some (.int c), some (.int d), some (.int a.toInt32), none], [], M, 0)) = (fun (w : Int32) (a : Int64) (b : Int32) (c : Int32) (d : Int32) (M : Mem) => some (.inl ((br (!decide (w = (14 : Int32))) 262 3 (14)), [some (.ref 0), some (.int w), some (.long a), none, some (.int b), some (.int c), some (.int d), some (.int a.toInt32), none], [], M, 0))) := by rfl
theorem to_15 (w : Int32) (h : Nat.ble 15 w.toBitVec.toNat = true) (a : Int64) (b c d : Int32) (M : Mem) : ∃ n, run C_L_act n (0, [some (.ref 0), some (.int w), some (.long a), none, some (.int b), some (.int c), some (.int d), none, none], [], M, 0) = some (.inl (276, [some (.ref 0), some (.int w), some (.long a), none, some (.int b), some (.int c), some (.int d), some (.int a.toInt32), none], [], M, 0)) := by
  obtain ⟨n, hn⟩ := to_14 w (Nat.ble_eq_true_of_le (Nat.le_of_succ_le (Nat.le_of_ble_eq_true h))) a b c d M
  have hw : ¬ (w = (14 : Int32)) := fun e => by
    subst e
    revert h
    decide
  exact ⟨n + 3, run_app n 3 _ _ _ hn ((congrFun (congrFun (congrFun (congrFun (congrFun (congrFun bc_14 w) a) b) c) d) M).trans (by rw [show (br (!decide (w = (14 : Int32))) 262 3 (14)) = 276 from by unfold br; rw [decide_eq_false hw]; rfl]))⟩
set_option maxRecDepth 100000 in
theorem bc_15 : (fun (w : Int32) (a : Int64) (b : Int32) (c : Int32) (d : Int32) (M : Mem) => run C_L_act 3 (276, [some (.ref 0), some (.int w), some (.long a), none, some (.int b), some (.int c), some (.int d), some (.int a.toInt32), none], [], M, 0)) = (fun (w : Int32) (a : Int64) (b : Int32) (c : Int32) (d : Int32) (M : Mem) => some (.inl ((br (!decide (w = (15 : Int32))) 279 3 (13)), [some (.ref 0), some (.int w), some (.long a), none, some (.int b), some (.int c), some (.int d), some (.int a.toInt32), none], [], M, 0))) := by rfl
theorem to_16 (w : Int32) (h : Nat.ble 16 w.toBitVec.toNat = true) (a : Int64) (b c d : Int32) (M : Mem) : ∃ n, run C_L_act n (0, [some (.ref 0), some (.int w), some (.long a), none, some (.int b), some (.int c), some (.int d), none, none], [], M, 0) = some (.inl (292, [some (.ref 0), some (.int w), some (.long a), none, some (.int b), some (.int c), some (.int d), some (.int a.toInt32), none], [], M, 0)) := by
  obtain ⟨n, hn⟩ := to_15 w (Nat.ble_eq_true_of_le (Nat.le_of_succ_le (Nat.le_of_ble_eq_true h))) a b c d M
  have hw : ¬ (w = (15 : Int32)) := fun e => by
    subst e
    revert h
    decide
  exact ⟨n + 3, run_app n 3 _ _ _ hn ((congrFun (congrFun (congrFun (congrFun (congrFun (congrFun bc_15 w) a) b) c) d) M).trans (by rw [show (br (!decide (w = (15 : Int32))) 279 3 (13)) = 292 from by unfold br; rw [decide_eq_false hw]; rfl]))⟩
set_option maxRecDepth 100000 in
theorem bc_16 : (fun (w : Int32) (a : Int64) (b : Int32) (c : Int32) (d : Int32) (M : Mem) => run C_L_act 3 (292, [some (.ref 0), some (.int w), some (.long a), none, some (.int b), some (.int c), some (.int d), some (.int a.toInt32), none], [], M, 0)) = (fun (w : Int32) (a : Int64) (b : Int32) (c : Int32) (d : Int32) (M : Mem) => some (.inl ((br (!decide (w = (16 : Int32))) 295 3 (12)), [some (.ref 0), some (.int w), some (.long a), none, some (.int b), some (.int c), some (.int d), some (.int a.toInt32), none], [], M, 0))) := by rfl
theorem to_17 (w : Int32) (h : Nat.ble 17 w.toBitVec.toNat = true) (a : Int64) (b c d : Int32) (M : Mem) : ∃ n, run C_L_act n (0, [some (.ref 0), some (.int w), some (.long a), none, some (.int b), some (.int c), some (.int d), none, none], [], M, 0) = some (.inl (307, [some (.ref 0), some (.int w), some (.long a), none, some (.int b), some (.int c), some (.int d), some (.int a.toInt32), none], [], M, 0)) := by
  obtain ⟨n, hn⟩ := to_16 w (Nat.ble_eq_true_of_le (Nat.le_of_succ_le (Nat.le_of_ble_eq_true h))) a b c d M
  have hw : ¬ (w = (16 : Int32)) := fun e => by
    subst e
    revert h
    decide
  exact ⟨n + 3, run_app n 3 _ _ _ hn ((congrFun (congrFun (congrFun (congrFun (congrFun (congrFun bc_16 w) a) b) c) d) M).trans (by rw [show (br (!decide (w = (16 : Int32))) 295 3 (12)) = 307 from by unfold br; rw [decide_eq_false hw]; rfl]))⟩
set_option maxRecDepth 100000 in
theorem bc_17 : (fun (w : Int32) (a : Int64) (b : Int32) (c : Int32) (d : Int32) (M : Mem) => run C_L_act 3 (307, [some (.ref 0), some (.int w), some (.long a), none, some (.int b), some (.int c), some (.int d), some (.int a.toInt32), none], [], M, 0)) = (fun (w : Int32) (a : Int64) (b : Int32) (c : Int32) (d : Int32) (M : Mem) => some (.inl ((br (!decide (w = (17 : Int32))) 310 3 (19)), [some (.ref 0), some (.int w), some (.long a), none, some (.int b), some (.int c), some (.int d), some (.int a.toInt32), none], [], M, 0))) := by rfl
theorem to_18 (w : Int32) (h : Nat.ble 18 w.toBitVec.toNat = true) (a : Int64) (b c d : Int32) (M : Mem) : ∃ n, run C_L_act n (0, [some (.ref 0), some (.int w), some (.long a), none, some (.int b), some (.int c), some (.int d), none, none], [], M, 0) = some (.inl (329, [some (.ref 0), some (.int w), some (.long a), none, some (.int b), some (.int c), some (.int d), some (.int a.toInt32), none], [], M, 0)) := by
  obtain ⟨n, hn⟩ := to_17 w (Nat.ble_eq_true_of_le (Nat.le_of_succ_le (Nat.le_of_ble_eq_true h))) a b c d M
  have hw : ¬ (w = (17 : Int32)) := fun e => by
    subst e
    revert h
    decide
  exact ⟨n + 3, run_app n 3 _ _ _ hn ((congrFun (congrFun (congrFun (congrFun (congrFun (congrFun bc_17 w) a) b) c) d) M).trans (by rw [show (br (!decide (w = (17 : Int32))) 310 3 (19)) = 329 from by unfold br; rw [decide_eq_false hw]; rfl]))⟩
set_option maxRecDepth 100000 in
theorem bc_18 : (fun (w : Int32) (a : Int64) (b : Int32) (c : Int32) (d : Int32) (M : Mem) => run C_L_act 3 (329, [some (.ref 0), some (.int w), some (.long a), none, some (.int b), some (.int c), some (.int d), some (.int a.toInt32), none], [], M, 0)) = (fun (w : Int32) (a : Int64) (b : Int32) (c : Int32) (d : Int32) (M : Mem) => some (.inl ((br (!decide (w = (18 : Int32))) 332 3 (17)), [some (.ref 0), some (.int w), some (.long a), none, some (.int b), some (.int c), some (.int d), some (.int a.toInt32), none], [], M, 0))) := by rfl
theorem to_19 (w : Int32) (h : Nat.ble 19 w.toBitVec.toNat = true) (a : Int64) (b c d : Int32) (M : Mem) : ∃ n, run C_L_act n (0, [some (.ref 0), some (.int w), some (.long a), none, some (.int b), some (.int c), some (.int d), none, none], [], M, 0) = some (.inl (349, [some (.ref 0), some (.int w), some (.long a), none, some (.int b), some (.int c), some (.int d), some (.int a.toInt32), none], [], M, 0)) := by
  obtain ⟨n, hn⟩ := to_18 w (Nat.ble_eq_true_of_le (Nat.le_of_succ_le (Nat.le_of_ble_eq_true h))) a b c d M
  have hw : ¬ (w = (18 : Int32)) := fun e => by
    subst e
    revert h
    decide
  exact ⟨n + 3, run_app n 3 _ _ _ hn ((congrFun (congrFun (congrFun (congrFun (congrFun (congrFun bc_18 w) a) b) c) d) M).trans (by rw [show (br (!decide (w = (18 : Int32))) 332 3 (17)) = 349 from by unfold br; rw [decide_eq_false hw]; rfl]))⟩
set_option maxRecDepth 100000 in
theorem bc_19 : (fun (w : Int32) (a : Int64) (b : Int32) (c : Int32) (d : Int32) (M : Mem) => run C_L_act 3 (349, [some (.ref 0), some (.int w), some (.long a), none, some (.int b), some (.int c), some (.int d), some (.int a.toInt32), none], [], M, 0)) = (fun (w : Int32) (a : Int64) (b : Int32) (c : Int32) (d : Int32) (M : Mem) => some (.inl ((br (!decide (w = (19 : Int32))) 352 3 (23)), [some (.ref 0), some (.int w), some (.long a), none, some (.int b), some (.int c), some (.int d), some (.int a.toInt32), none], [], M, 0))) := by rfl
theorem to_20 (w : Int32) (h : Nat.ble 20 w.toBitVec.toNat = true) (a : Int64) (b c d : Int32) (M : Mem) : ∃ n, run C_L_act n (0, [some (.ref 0), some (.int w), some (.long a), none, some (.int b), some (.int c), some (.int d), none, none], [], M, 0) = some (.inl (375, [some (.ref 0), some (.int w), some (.long a), none, some (.int b), some (.int c), some (.int d), some (.int a.toInt32), none], [], M, 0)) := by
  obtain ⟨n, hn⟩ := to_19 w (Nat.ble_eq_true_of_le (Nat.le_of_succ_le (Nat.le_of_ble_eq_true h))) a b c d M
  have hw : ¬ (w = (19 : Int32)) := fun e => by
    subst e
    revert h
    decide
  exact ⟨n + 3, run_app n 3 _ _ _ hn ((congrFun (congrFun (congrFun (congrFun (congrFun (congrFun bc_19 w) a) b) c) d) M).trans (by rw [show (br (!decide (w = (19 : Int32))) 352 3 (23)) = 375 from by unfold br; rw [decide_eq_false hw]; rfl]))⟩
set_option maxRecDepth 100000 in
theorem bc_20 : (fun (w : Int32) (a : Int64) (b : Int32) (c : Int32) (d : Int32) (M : Mem) => run C_L_act 3 (375, [some (.ref 0), some (.int w), some (.long a), none, some (.int b), some (.int c), some (.int d), some (.int a.toInt32), none], [], M, 0)) = (fun (w : Int32) (a : Int64) (b : Int32) (c : Int32) (d : Int32) (M : Mem) => some (.inl ((br (!decide (w = (20 : Int32))) 378 3 (14)), [some (.ref 0), some (.int w), some (.long a), none, some (.int b), some (.int c), some (.int d), some (.int a.toInt32), none], [], M, 0))) := by rfl
theorem to_21 (w : Int32) (h : Nat.ble 21 w.toBitVec.toNat = true) (a : Int64) (b c d : Int32) (M : Mem) : ∃ n, run C_L_act n (0, [some (.ref 0), some (.int w), some (.long a), none, some (.int b), some (.int c), some (.int d), none, none], [], M, 0) = some (.inl (392, [some (.ref 0), some (.int w), some (.long a), none, some (.int b), some (.int c), some (.int d), some (.int a.toInt32), none], [], M, 0)) := by
  obtain ⟨n, hn⟩ := to_20 w (Nat.ble_eq_true_of_le (Nat.le_of_succ_le (Nat.le_of_ble_eq_true h))) a b c d M
  have hw : ¬ (w = (20 : Int32)) := fun e => by
    subst e
    revert h
    decide
  exact ⟨n + 3, run_app n 3 _ _ _ hn ((congrFun (congrFun (congrFun (congrFun (congrFun (congrFun bc_20 w) a) b) c) d) M).trans (by rw [show (br (!decide (w = (20 : Int32))) 378 3 (14)) = 392 from by unfold br; rw [decide_eq_false hw]; rfl]))⟩
set_option maxRecDepth 100000 in
theorem bc_21 : (fun (w : Int32) (a : Int64) (b : Int32) (c : Int32) (d : Int32) (M : Mem) => run C_L_act 3 (392, [some (.ref 0), some (.int w), some (.long a), none, some (.int b), some (.int c), some (.int d), some (.int a.toInt32), none], [], M, 0)) = (fun (w : Int32) (a : Int64) (b : Int32) (c : Int32) (d : Int32) (M : Mem) => some (.inl ((br (!decide (w = (21 : Int32))) 395 3 (14)), [some (.ref 0), some (.int w), some (.long a), none, some (.int b), some (.int c), some (.int d), some (.int a.toInt32), none], [], M, 0))) := by rfl
theorem to_22 (w : Int32) (h : Nat.ble 22 w.toBitVec.toNat = true) (a : Int64) (b c d : Int32) (M : Mem) : ∃ n, run C_L_act n (0, [some (.ref 0), some (.int w), some (.long a), none, some (.int b), some (.int c), some (.int d), none, none], [], M, 0) = some (.inl (409, [some (.ref 0), some (.int w), some (.long a), none, some (.int b), some (.int c), some (.int d), some (.int a.toInt32), none], [], M, 0)) := by
  obtain ⟨n, hn⟩ := to_21 w (Nat.ble_eq_true_of_le (Nat.le_of_succ_le (Nat.le_of_ble_eq_true h))) a b c d M
  have hw : ¬ (w = (21 : Int32)) := fun e => by
    subst e
    revert h
    decide
  exact ⟨n + 3, run_app n 3 _ _ _ hn ((congrFun (congrFun (congrFun (congrFun (congrFun (congrFun bc_21 w) a) b) c) d) M).trans (by rw [show (br (!decide (w = (21 : Int32))) 395 3 (14)) = 409 from by unfold br; rw [decide_eq_false hw]; rfl]))⟩
set_option maxRecDepth 100000 in
theorem bc_22 : (fun (w : Int32) (a : Int64) (b : Int32) (c : Int32) (d : Int32) (M : Mem) => run C_L_act 3 (409, [some (.ref 0), some (.int w), some (.long a), none, some (.int b), some (.int c), some (.int d), some (.int a.toInt32), none], [], M, 0)) = (fun (w : Int32) (a : Int64) (b : Int32) (c : Int32) (d : Int32) (M : Mem) => some (.inl ((br (!decide (w = (22 : Int32))) 412 3 (13)), [some (.ref 0), some (.int w), some (.long a), none, some (.int b), some (.int c), some (.int d), some (.int a.toInt32), none], [], M, 0))) := by rfl
theorem to_23 (w : Int32) (h : Nat.ble 23 w.toBitVec.toNat = true) (a : Int64) (b c d : Int32) (M : Mem) : ∃ n, run C_L_act n (0, [some (.ref 0), some (.int w), some (.long a), none, some (.int b), some (.int c), some (.int d), none, none], [], M, 0) = some (.inl (425, [some (.ref 0), some (.int w), some (.long a), none, some (.int b), some (.int c), some (.int d), some (.int a.toInt32), none], [], M, 0)) := by
  obtain ⟨n, hn⟩ := to_22 w (Nat.ble_eq_true_of_le (Nat.le_of_succ_le (Nat.le_of_ble_eq_true h))) a b c d M
  have hw : ¬ (w = (22 : Int32)) := fun e => by
    subst e
    revert h
    decide
  exact ⟨n + 3, run_app n 3 _ _ _ hn ((congrFun (congrFun (congrFun (congrFun (congrFun (congrFun bc_22 w) a) b) c) d) M).trans (by rw [show (br (!decide (w = (22 : Int32))) 412 3 (13)) = 425 from by unfold br; rw [decide_eq_false hw]; rfl]))⟩
set_option maxRecDepth 100000 in
theorem bc_23 : (fun (w : Int32) (a : Int64) (b : Int32) (c : Int32) (d : Int32) (M : Mem) => run C_L_act 3 (425, [some (.ref 0), some (.int w), some (.long a), none, some (.int b), some (.int c), some (.int d), some (.int a.toInt32), none], [], M, 0)) = (fun (w : Int32) (a : Int64) (b : Int32) (c : Int32) (d : Int32) (M : Mem) => some (.inl ((br (!decide (w = (23 : Int32))) 428 3 (13)), [some (.ref 0), some (.int w), some (.long a), none, some (.int b), some (.int c), some (.int d), some (.int a.toInt32), none], [], M, 0))) := by rfl
theorem to_24 (w : Int32) (h : Nat.ble 24 w.toBitVec.toNat = true) (a : Int64) (b c d : Int32) (M : Mem) : ∃ n, run C_L_act n (0, [some (.ref 0), some (.int w), some (.long a), none, some (.int b), some (.int c), some (.int d), none, none], [], M, 0) = some (.inl (441, [some (.ref 0), some (.int w), some (.long a), none, some (.int b), some (.int c), some (.int d), some (.int a.toInt32), none], [], M, 0)) := by
  obtain ⟨n, hn⟩ := to_23 w (Nat.ble_eq_true_of_le (Nat.le_of_succ_le (Nat.le_of_ble_eq_true h))) a b c d M
  have hw : ¬ (w = (23 : Int32)) := fun e => by
    subst e
    revert h
    decide
  exact ⟨n + 3, run_app n 3 _ _ _ hn ((congrFun (congrFun (congrFun (congrFun (congrFun (congrFun bc_23 w) a) b) c) d) M).trans (by rw [show (br (!decide (w = (23 : Int32))) 428 3 (13)) = 441 from by unfold br; rw [decide_eq_false hw]; rfl]))⟩
set_option maxRecDepth 100000 in
theorem bc_24 : (fun (w : Int32) (a : Int64) (b : Int32) (c : Int32) (d : Int32) (M : Mem) => run C_L_act 3 (441, [some (.ref 0), some (.int w), some (.long a), none, some (.int b), some (.int c), some (.int d), some (.int a.toInt32), none], [], M, 0)) = (fun (w : Int32) (a : Int64) (b : Int32) (c : Int32) (d : Int32) (M : Mem) => some (.inl ((br (!decide (w = (24 : Int32))) 444 3 (11)), [some (.ref 0), some (.int w), some (.long a), none, some (.int b), some (.int c), some (.int d), some (.int a.toInt32), none], [], M, 0))) := by rfl
theorem to_25 (w : Int32) (h : Nat.ble 25 w.toBitVec.toNat = true) (a : Int64) (b c d : Int32) (M : Mem) : ∃ n, run C_L_act n (0, [some (.ref 0), some (.int w), some (.long a), none, some (.int b), some (.int c), some (.int d), none, none], [], M, 0) = some (.inl (455, [some (.ref 0), some (.int w), some (.long a), none, some (.int b), some (.int c), some (.int d), some (.int a.toInt32), none], [], M, 0)) := by
  obtain ⟨n, hn⟩ := to_24 w (Nat.ble_eq_true_of_le (Nat.le_of_succ_le (Nat.le_of_ble_eq_true h))) a b c d M
  have hw : ¬ (w = (24 : Int32)) := fun e => by
    subst e
    revert h
    decide
  exact ⟨n + 3, run_app n 3 _ _ _ hn ((congrFun (congrFun (congrFun (congrFun (congrFun (congrFun bc_24 w) a) b) c) d) M).trans (by rw [show (br (!decide (w = (24 : Int32))) 444 3 (11)) = 455 from by unfold br; rw [decide_eq_false hw]; rfl]))⟩
set_option maxRecDepth 100000 in
theorem bc_25 : (fun (w : Int32) (a : Int64) (b : Int32) (c : Int32) (d : Int32) (M : Mem) => run C_L_act 3 (455, [some (.ref 0), some (.int w), some (.long a), none, some (.int b), some (.int c), some (.int d), some (.int a.toInt32), none], [], M, 0)) = (fun (w : Int32) (a : Int64) (b : Int32) (c : Int32) (d : Int32) (M : Mem) => some (.inl ((br (!decide (w = (25 : Int32))) 458 3 (15)), [some (.ref 0), some (.int w), some (.long a), none, some (.int b), some (.int c), some (.int d), some (.int a.toInt32), none], [], M, 0))) := by rfl
theorem to_26 (w : Int32) (h : Nat.ble 26 w.toBitVec.toNat = true) (a : Int64) (b c d : Int32) (M : Mem) : ∃ n, run C_L_act n (0, [some (.ref 0), some (.int w), some (.long a), none, some (.int b), some (.int c), some (.int d), none, none], [], M, 0) = some (.inl (473, [some (.ref 0), some (.int w), some (.long a), none, some (.int b), some (.int c), some (.int d), some (.int a.toInt32), none], [], M, 0)) := by
  obtain ⟨n, hn⟩ := to_25 w (Nat.ble_eq_true_of_le (Nat.le_of_succ_le (Nat.le_of_ble_eq_true h))) a b c d M
  have hw : ¬ (w = (25 : Int32)) := fun e => by
    subst e
    revert h
    decide
  exact ⟨n + 3, run_app n 3 _ _ _ hn ((congrFun (congrFun (congrFun (congrFun (congrFun (congrFun bc_25 w) a) b) c) d) M).trans (by rw [show (br (!decide (w = (25 : Int32))) 458 3 (15)) = 473 from by unfold br; rw [decide_eq_false hw]; rfl]))⟩
set_option maxRecDepth 100000 in
theorem bc_26 : (fun (w : Int32) (a : Int64) (b : Int32) (c : Int32) (d : Int32) (M : Mem) => run C_L_act 3 (473, [some (.ref 0), some (.int w), some (.long a), none, some (.int b), some (.int c), some (.int d), some (.int a.toInt32), none], [], M, 0)) = (fun (w : Int32) (a : Int64) (b : Int32) (c : Int32) (d : Int32) (M : Mem) => some (.inl ((br (!decide (w = (26 : Int32))) 476 3 (15)), [some (.ref 0), some (.int w), some (.long a), none, some (.int b), some (.int c), some (.int d), some (.int a.toInt32), none], [], M, 0))) := by rfl
theorem to_27 (w : Int32) (h : Nat.ble 27 w.toBitVec.toNat = true) (a : Int64) (b c d : Int32) (M : Mem) : ∃ n, run C_L_act n (0, [some (.ref 0), some (.int w), some (.long a), none, some (.int b), some (.int c), some (.int d), none, none], [], M, 0) = some (.inl (491, [some (.ref 0), some (.int w), some (.long a), none, some (.int b), some (.int c), some (.int d), some (.int a.toInt32), none], [], M, 0)) := by
  obtain ⟨n, hn⟩ := to_26 w (Nat.ble_eq_true_of_le (Nat.le_of_succ_le (Nat.le_of_ble_eq_true h))) a b c d M
  have hw : ¬ (w = (26 : Int32)) := fun e => by
    subst e
    revert h
    decide
  exact ⟨n + 3, run_app n 3 _ _ _ hn ((congrFun (congrFun (congrFun (congrFun (congrFun (congrFun bc_26 w) a) b) c) d) M).trans (by rw [show (br (!decide (w = (26 : Int32))) 476 3 (15)) = 491 from by unfold br; rw [decide_eq_false hw]; rfl]))⟩
set_option maxRecDepth 100000 in
theorem bc_27 : (fun (w : Int32) (a : Int64) (b : Int32) (c : Int32) (d : Int32) (M : Mem) => run C_L_act 3 (491, [some (.ref 0), some (.int w), some (.long a), none, some (.int b), some (.int c), some (.int d), some (.int a.toInt32), none], [], M, 0)) = (fun (w : Int32) (a : Int64) (b : Int32) (c : Int32) (d : Int32) (M : Mem) => some (.inl ((br (!decide (w = (27 : Int32))) 494 3 (17)), [some (.ref 0), some (.int w), some (.long a), none, some (.int b), some (.int c), some (.int d), some (.int a.toInt32), none], [], M, 0))) := by rfl
theorem to_28 (w : Int32) (h : Nat.ble 28 w.toBitVec.toNat = true) (a : Int64) (b c d : Int32) (M : Mem) : ∃ n, run C_L_act n (0, [some (.ref 0), some (.int w), some (.long a), none, some (.int b), some (.int c), some (.int d), none, none], [], M, 0) = some (.inl (511, [some (.ref 0), some (.int w), some (.long a), none, some (.int b), some (.int c), some (.int d), some (.int a.toInt32), none], [], M, 0)) := by
  obtain ⟨n, hn⟩ := to_27 w (Nat.ble_eq_true_of_le (Nat.le_of_succ_le (Nat.le_of_ble_eq_true h))) a b c d M
  have hw : ¬ (w = (27 : Int32)) := fun e => by
    subst e
    revert h
    decide
  exact ⟨n + 3, run_app n 3 _ _ _ hn ((congrFun (congrFun (congrFun (congrFun (congrFun (congrFun bc_27 w) a) b) c) d) M).trans (by rw [show (br (!decide (w = (27 : Int32))) 494 3 (17)) = 511 from by unfold br; rw [decide_eq_false hw]; rfl]))⟩
set_option maxRecDepth 100000 in
theorem ba_0 : (fun (a : Int64) (b : Int32) (c : Int32) (d : Int32) (M : Mem) => run C_L_act 5 (4, [some (.ref 0), some (.int (0 : Int32)), some (.long a), none, some (.int b), some (.int c), some (.int d), some (.int a.toInt32), none], [], M, 0)) = (fun (a : Int64) (b : Int32) (c : Int32) (d : Int32) (M : Mem) => some (.inl (13, [some (.ref 0), some (.int (0 : Int32)), some (.long a), none, some (.int b), some (.int c), some (.int d), some (.int a.toInt32), none], [.int b, .int a.toInt32, .ref 0], M, 0))) := by rfl
set_option maxRecDepth 100000 in
theorem bb_0 : (fun (a : Int64) (b : Int32) (c : Int32) (d : Int32) (v : Int32) (M : Mem) => run C_L_act 3 (16, [some (.ref 0), some (.int (0 : Int32)), some (.long a), none, some (.int b), some (.int c), some (.int d), some (.int a.toInt32), none], [.int v], M, 1)) = (fun (a : Int64) (b : Int32) (c : Int32) (d : Int32) (v : Int32) (M : Mem) => some (.inr (.inl (some (.long v.toInt64)), M, 1))) := by rfl
set_option maxRecDepth 100000 in
theorem act_0 {M : Mem} {s : HS} (hR : Rel M s) (a : Int64) (b c d : Int32) : Go (fnR C_L_act 9 [.ref 0, .int (0 : Int32), .long a, .int b, .int c, .int d] M) (cvA (p_group a.toInt32 b s)) := by
  exact act_go (pc := 13) (kd := 2) (ci := 5) (na := 3) (mc := 1) (mk := 1) (lo := [some (.ref 0), some (.int (0 : Int32)), some (.long a), none, some (.int b), some (.int c), some (.int d), some (.int a.toInt32), none]) (st := [.int b, .int a.toInt32, .ref 0]) (f := fn_X7_group) (go_group hR a.toInt32 b) rfl (Nat.le_of_ble_eq_true rfl) ((to_0 (0 : Int32) a b c d M).elim fun n hn => ⟨n + 5, run_app n 5 _ _ _ hn (congrFun (congrFun (congrFun (congrFun (congrFun ba_0 a) b) c) d) M)⟩) (stp_call (Or.inr ⟨rfl, rfl⟩) rfl rfl rfl) rfl rfl (hnd_act rfl rfl rfl) (act_I (mc := 1) (fo_group a.toInt32 b s) (fun v M' => (congrFun (congrFun (congrFun (congrFun (congrFun (congrFun bb_0 a) b) c) d) v) M')))
set_option maxRecDepth 100000 in
theorem ba_1t : (fun (a : Int64) (b : Int32) (d : Int32) (M : Mem) => run C_L_act 11 (20, [some (.ref 0), some (.int (1 : Int32)), some (.long a), none, some (.int b), some (.int (1 : Int32)), some (.int d), some (.int a.toInt32), none], [], M, 0)) = (fun (a : Int64) (b : Int32) (d : Int32) (M : Mem) => some (.inl (41, [some (.ref 0), some (.int (1 : Int32)), some (.long a), none, some (.int b), some (.int (1 : Int32)), some (.int d), some (.int a.toInt32), none], [.int (1 : Int32), .int b, .int a.toInt32, .ref 0], M, 0))) := by rfl
set_option maxRecDepth 100000 in
theorem ba_1b : (fun (a : Int64) (b : Int32) (c : Int32) (d : Int32) (M : Mem) => run C_L_act 9 (20, [some (.ref 0), some (.int (1 : Int32)), some (.long a), none, some (.int b), some (.int c), some (.int d), some (.int a.toInt32), none], [], M, 0)) = (fun (a : Int64) (b : Int32) (c : Int32) (d : Int32) (M : Mem) => some (.inl ((br (!decide (c = (1 : Int32))) 33 3 (7)), [some (.ref 0), some (.int (1 : Int32)), some (.long a), none, some (.int b), some (.int c), some (.int d), some (.int a.toInt32), none], [.int b, .int a.toInt32, .ref 0], M, 0))) := by rfl
set_option maxRecDepth 100000 in
theorem ba_1f : (fun (a : Int64) (b : Int32) (c : Int32) (d : Int32) (M : Mem) => run C_L_act 1 (40, [some (.ref 0), some (.int (1 : Int32)), some (.long a), none, some (.int b), some (.int c), some (.int d), some (.int a.toInt32), none], [.int b, .int a.toInt32, .ref 0], M, 0)) = (fun (a : Int64) (b : Int32) (c : Int32) (d : Int32) (M : Mem) => some (.inl (41, [some (.ref 0), some (.int (1 : Int32)), some (.long a), none, some (.int b), some (.int c), some (.int d), some (.int a.toInt32), none], [.int (0 : Int32), .int b, .int a.toInt32, .ref 0], M, 0))) := by rfl
set_option maxRecDepth 100000 in
theorem bb_1t : (fun (a : Int64) (b : Int32) (d : Int32) (v : Int32) (M : Mem) => run C_L_act 3 (44, [some (.ref 0), some (.int (1 : Int32)), some (.long a), none, some (.int b), some (.int (1 : Int32)), some (.int d), some (.int a.toInt32), none], [.int v], M, 2)) = (fun (a : Int64) (b : Int32) (d : Int32) (v : Int32) (M : Mem) => some (.inr (.inl (some (.long v.toInt64)), M, 2))) := by rfl
set_option maxRecDepth 100000 in
theorem bb_1f : (fun (a : Int64) (b : Int32) (c : Int32) (d : Int32) (v : Int32) (M : Mem) => run C_L_act 3 (44, [some (.ref 0), some (.int (1 : Int32)), some (.long a), none, some (.int b), some (.int c), some (.int d), some (.int a.toInt32), none], [.int v], M, 2)) = (fun (a : Int64) (b : Int32) (c : Int32) (d : Int32) (v : Int32) (M : Mem) => some (.inr (.inl (some (.long v.toInt64)), M, 2))) := by rfl
set_option maxRecDepth 100000 in
theorem act_1 {M : Mem} {s : HS} (hR : Rel M s) (a : Int64) (b c d : Int32) : Go (fnR C_L_act 9 [.ref 0, .int (1 : Int32), .long a, .int b, .int c, .int d] M) (cvA (p_add a.toInt32 b (if c = 1 then 1 else 0) s)) := by
  by_cases hc : c = 1
  · subst hc
    rw [if_pos rfl]
    exact act_go (pc := 41) (kd := 2) (ci := 5) (na := 4) (mc := 2) (mk := 1) (lo := [some (.ref 0), some (.int (1 : Int32)), some (.long a), none, some (.int b), some (.int (1 : Int32)), some (.int d), some (.int a.toInt32), none]) (st := [.int (1 : Int32), .int b, .int a.toInt32, .ref 0]) (f := fn_X7_add) (go_add hR a.toInt32 b (1 : Int32)) rfl (Nat.le_of_ble_eq_true rfl) ((to_1 (1 : Int32) rfl a b (1 : Int32) d M).elim fun n hn => ⟨n + 11, run_app n 11 _ _ _ hn (congrFun (congrFun (congrFun (congrFun ba_1t a) b) d) M)⟩) (stp_call (Or.inr ⟨rfl, rfl⟩) rfl rfl rfl) rfl rfl (hnd_act rfl rfl rfl) (act_I (mc := 2) (fo_add a.toInt32 b (1 : Int32) s) (fun v M' => (congrFun (congrFun (congrFun (congrFun (congrFun bb_1t a) b) d) v) M')))
  · rw [if_neg hc]
    have hb3 : ∃ n, run C_L_act n (ini 9 [.ref 0, .int (1 : Int32), .long a, .int b, .int c, .int d] M) = some (.inl (40, [some (.ref 0), some (.int (1 : Int32)), some (.long a), none, some (.int b), some (.int c), some (.int d), some (.int a.toInt32), none], [.int b, .int a.toInt32, .ref 0], M, 0)) := ((to_1 (1 : Int32) rfl a b c d M).elim fun n hn => ⟨n + 9, run_app n 9 _ _ _ hn ((congrFun (congrFun (congrFun (congrFun (congrFun ba_1b a) b) c) d) M).trans (by rw [show (br (!decide (c = (1 : Int32))) 33 3 (7)) = 40 from by unfold br; rw [decide_eq_false hc]; rfl]))⟩)
    exact act_go (pc := 41) (kd := 2) (ci := 5) (na := 4) (mc := 2) (mk := 1) (lo := [some (.ref 0), some (.int (1 : Int32)), some (.long a), none, some (.int b), some (.int c), some (.int d), some (.int a.toInt32), none]) (st := [.int (0 : Int32), .int b, .int a.toInt32, .ref 0]) (f := fn_X7_add) (go_add hR a.toInt32 b (0 : Int32)) rfl (Nat.le_of_ble_eq_true rfl) (hb3.elim fun n hn => ⟨n + 1, run_app n 1 _ _ _ hn (congrFun (congrFun (congrFun (congrFun (congrFun ba_1f a) b) c) d) M)⟩) (stp_call (Or.inr ⟨rfl, rfl⟩) rfl rfl rfl) rfl rfl (hnd_act rfl rfl rfl) (act_I (mc := 2) (fo_add a.toInt32 b (0 : Int32) s) (fun v M' => (congrFun (congrFun (congrFun (congrFun (congrFun (congrFun bb_1f a) b) c) d) v) M')))
set_option maxRecDepth 100000 in
theorem ba_2 : (fun (a : Int64) (b : Int32) (c : Int32) (d : Int32) (M : Mem) => run C_L_act 5 (48, [some (.ref 0), some (.int (2 : Int32)), some (.long a), none, some (.int b), some (.int c), some (.int d), some (.int a.toInt32), none], [], M, 0)) = (fun (a : Int64) (b : Int32) (c : Int32) (d : Int32) (M : Mem) => some (.inl (55, [some (.ref 0), some (.int (2 : Int32)), some (.long a), none, some (.int b), some (.int c), some (.int d), some (.int a.toInt32), none], [.long a, .ref 0], M, 0))) := by rfl
set_option maxRecDepth 100000 in
theorem bb_2 : (fun (a : Int64) (b : Int32) (c : Int32) (d : Int32) (v : Int32) (M : Mem) => run C_L_act 3 (58, [some (.ref 0), some (.int (2 : Int32)), some (.long a), none, some (.int b), some (.int c), some (.int d), some (.int a.toInt32), none], [.int v], M, 1)) = (fun (a : Int64) (b : Int32) (c : Int32) (d : Int32) (v : Int32) (M : Mem) => some (.inr (.inl (some (.long v.toInt64)), M, 1))) := by rfl
set_option maxRecDepth 100000 in
theorem act_2 {M : Mem} {s : HS} (hR : Rel M s) (a : Int64) (b c d : Int32) : Go (fnR C_L_act 9 [.ref 0, .int (2 : Int32), .long a, .int b, .int c, .int d] M) (cvA (p_set a s)) := by
  exact act_go (pc := 55) (kd := 2) (ci := 5) (na := 2) (mc := 1) (mk := 1) (lo := [some (.ref 0), some (.int (2 : Int32)), some (.long a), none, some (.int b), some (.int c), some (.int d), some (.int a.toInt32), none]) (st := [.long a, .ref 0]) (f := fn_X7_set) (go_set hR a) rfl (Nat.le_of_ble_eq_true rfl) ((to_2 (2 : Int32) rfl a b c d M).elim fun n hn => ⟨n + 5, run_app n 5 _ _ _ hn (congrFun (congrFun (congrFun (congrFun (congrFun ba_2 a) b) c) d) M)⟩) (stp_call (Or.inr ⟨rfl, rfl⟩) rfl rfl rfl) rfl rfl (hnd_act rfl rfl rfl) (act_I (mc := 1) (fo_set a s) (fun v M' => (congrFun (congrFun (congrFun (congrFun (congrFun (congrFun bb_2 a) b) c) d) v) M')))
set_option maxRecDepth 100000 in
theorem ba_3 : (fun (a : Int64) (b : Int32) (c : Int32) (d : Int32) (M : Mem) => run C_L_act 7 (62, [some (.ref 0), some (.int (3 : Int32)), some (.long a), none, some (.int b), some (.int c), some (.int d), some (.int a.toInt32), none], [], M, 0)) = (fun (a : Int64) (b : Int32) (c : Int32) (d : Int32) (M : Mem) => some (.inl (74, [some (.ref 0), some (.int (3 : Int32)), some (.long a), none, some (.int b), some (.int c), some (.int d), some (.int a.toInt32), none], [.int c, .int b, .int a.toInt32, .ref 0], M, 0))) := by rfl
set_option maxRecDepth 100000 in
theorem bb_3 : (fun (a : Int64) (b : Int32) (c : Int32) (d : Int32) (v : Int32) (M : Mem) => run C_L_act 3 (77, [some (.ref 0), some (.int (3 : Int32)), some (.long a), none, some (.int b), some (.int c), some (.int d), some (.int a.toInt32), none], [.int v], M, 3)) = (fun (a : Int64) (b : Int32) (c : Int32) (d : Int32) (v : Int32) (M : Mem) => some (.inr (.inl (some (.long v.toInt64)), M, 3))) := by rfl
set_option maxRecDepth 100000 in
theorem act_3 {M : Mem} {s : HS} (hR : Rel M s) (a : Int64) (b c d : Int32) : Go (fnR C_L_act 9 [.ref 0, .int (3 : Int32), .long a, .int b, .int c, .int d] M) (cvA (p_combine a.toInt32 b c s)) := by
  exact act_go (pc := 74) (kd := 2) (ci := 5) (na := 4) (mc := 3) (mk := 1) (lo := [some (.ref 0), some (.int (3 : Int32)), some (.long a), none, some (.int b), some (.int c), some (.int d), some (.int a.toInt32), none]) (st := [.int c, .int b, .int a.toInt32, .ref 0]) (f := fn_X7_combine) (go_combine hR a.toInt32 b c) rfl (Nat.le_of_ble_eq_true rfl) ((to_3 (3 : Int32) rfl a b c d M).elim fun n hn => ⟨n + 7, run_app n 7 _ _ _ hn (congrFun (congrFun (congrFun (congrFun (congrFun ba_3 a) b) c) d) M)⟩) (stp_call (Or.inr ⟨rfl, rfl⟩) rfl rfl rfl) rfl rfl (hnd_act rfl rfl rfl) (act_I (mc := 3) (fo_combine a.toInt32 b c s) (fun v M' => (congrFun (congrFun (congrFun (congrFun (congrFun (congrFun bb_3 a) b) c) d) v) M')))
set_option maxRecDepth 100000 in
theorem ba_4 : (fun (a : Int64) (b : Int32) (c : Int32) (d : Int32) (M : Mem) => run C_L_act 7 (81, [some (.ref 0), some (.int (4 : Int32)), some (.long a), none, some (.int b), some (.int c), some (.int d), some (.int a.toInt32), none], [], M, 0)) = (fun (a : Int64) (b : Int32) (c : Int32) (d : Int32) (M : Mem) => some (.inl (93, [some (.ref 0), some (.int (4 : Int32)), some (.long a), none, some (.int b), some (.int c), some (.int d), some (.int a.toInt32), none], [.int c, .int b, .int a.toInt32, .ref 0], M, 0))) := by rfl
set_option maxRecDepth 100000 in
theorem bb_4 : (fun (a : Int64) (b : Int32) (c : Int32) (d : Int32) (v : Int32) (M : Mem) => run C_L_act 3 (96, [some (.ref 0), some (.int (4 : Int32)), some (.long a), none, some (.int b), some (.int c), some (.int d), some (.int a.toInt32), none], [.int v], M, 3)) = (fun (a : Int64) (b : Int32) (c : Int32) (d : Int32) (v : Int32) (M : Mem) => some (.inr (.inl (some (.long v.toInt64)), M, 3))) := by rfl
set_option maxRecDepth 100000 in
theorem act_4 {M : Mem} {s : HS} (hR : Rel M s) (a : Int64) (b c d : Int32) : Go (fnR C_L_act 9 [.ref 0, .int (4 : Int32), .long a, .int b, .int c, .int d] M) (cvA (p_move a.toInt32 b c s)) := by
  exact act_go (pc := 93) (kd := 2) (ci := 5) (na := 4) (mc := 3) (mk := 1) (lo := [some (.ref 0), some (.int (4 : Int32)), some (.long a), none, some (.int b), some (.int c), some (.int d), some (.int a.toInt32), none]) (st := [.int c, .int b, .int a.toInt32, .ref 0]) (f := fn_X7_move) (go_move hR a.toInt32 b c) rfl (Nat.le_of_ble_eq_true rfl) ((to_4 (4 : Int32) rfl a b c d M).elim fun n hn => ⟨n + 7, run_app n 7 _ _ _ hn (congrFun (congrFun (congrFun (congrFun (congrFun ba_4 a) b) c) d) M)⟩) (stp_call (Or.inr ⟨rfl, rfl⟩) rfl rfl rfl) rfl rfl (hnd_act rfl rfl rfl) (act_I (mc := 3) (fo_move a.toInt32 b c s) (fun v M' => (congrFun (congrFun (congrFun (congrFun (congrFun (congrFun bb_4 a) b) c) d) v) M')))
set_option maxRecDepth 100000 in
theorem ba_5 : (fun (a : Int64) (b : Int32) (c : Int32) (d : Int32) (M : Mem) => run C_L_act 5 (100, [some (.ref 0), some (.int (5 : Int32)), some (.long a), none, some (.int b), some (.int c), some (.int d), some (.int a.toInt32), none], [], M, 0)) = (fun (a : Int64) (b : Int32) (c : Int32) (d : Int32) (M : Mem) => some (.inl (108, [some (.ref 0), some (.int (5 : Int32)), some (.long a), none, some (.int b), some (.int c), some (.int d), some (.int a.toInt32), none], [.int a.toInt32, .ref 0], M, 0))) := by rfl
set_option maxRecDepth 100000 in
theorem bb_5 : (fun (a : Int64) (b : Int32) (c : Int32) (d : Int32) (vl : Int64) (M : Mem) => run C_L_act 2 (111, [some (.ref 0), some (.int (5 : Int32)), some (.long a), none, some (.int b), some (.int c), some (.int d), some (.int a.toInt32), none], [.long vl], M, 1)) = (fun (a : Int64) (b : Int32) (c : Int32) (d : Int32) (vl : Int64) (M : Mem) => some (.inr (.inl (some (.long vl)), M, 1))) := by rfl
set_option maxRecDepth 100000 in
theorem act_5 {M : Mem} {s : HS} (hR : Rel M s) (a : Int64) (b c d : Int32) : Go (fnR C_L_act 9 [.ref 0, .int (5 : Int32), .long a, .int b, .int c, .int d] M) (cvA (p_elements a.toInt32 s)) := by
  exact act_go (pc := 108) (kd := 2) (ci := 5) (na := 2) (mc := 1) (mk := 1) (lo := [some (.ref 0), some (.int (5 : Int32)), some (.long a), none, some (.int b), some (.int c), some (.int d), some (.int a.toInt32), none]) (st := [.int a.toInt32, .ref 0]) (f := fn_X7_elements) (go_elements hR a.toInt32) rfl (Nat.le_of_ble_eq_true rfl) ((to_5 (5 : Int32) rfl a b c d M).elim fun n hn => ⟨n + 5, run_app n 5 _ _ _ hn (congrFun (congrFun (congrFun (congrFun (congrFun ba_5 a) b) c) d) M)⟩) (stp_call (Or.inr ⟨rfl, rfl⟩) rfl rfl rfl) rfl rfl (hnd_act rfl rfl rfl) (act_L (mc := 1) (fo_elements a.toInt32 s) (fun v M' => (congrFun (congrFun (congrFun (congrFun (congrFun (congrFun bb_5 a) b) c) d) v) M')))
set_option maxRecDepth 100000 in
theorem ba_6 : (fun (a : Int64) (b : Int32) (c : Int32) (d : Int32) (M : Mem) => run C_L_act 7 (114, [some (.ref 0), some (.int (6 : Int32)), some (.long a), none, some (.int b), some (.int c), some (.int d), some (.int a.toInt32), none], [], M, 0)) = (fun (a : Int64) (b : Int32) (c : Int32) (d : Int32) (M : Mem) => some (.inl (127, [some (.ref 0), some (.int (6 : Int32)), some (.long a), none, some (.int b), some (.int c), some (.int d), some (.int a.toInt32), none], [.int c, .int b, .int a.toInt32, .ref 0], M, 0))) := by rfl
set_option maxRecDepth 100000 in
theorem bb_6 : (fun (a : Int64) (b : Int32) (c : Int32) (d : Int32) (v : Int32) (M : Mem) => run C_L_act 3 (130, [some (.ref 0), some (.int (6 : Int32)), some (.long a), none, some (.int b), some (.int c), some (.int d), some (.int a.toInt32), none], [.int v], M, 3)) = (fun (a : Int64) (b : Int32) (c : Int32) (d : Int32) (v : Int32) (M : Mem) => some (.inr (.inl (some (.long v.toInt64)), M, 3))) := by rfl
set_option maxRecDepth 100000 in
theorem act_6 {M : Mem} {s : HS} (hR : Rel M s) (a : Int64) (b c d : Int32) : Go (fnR C_L_act 9 [.ref 0, .int (6 : Int32), .long a, .int b, .int c, .int d] M) (cvA (p_ways a.toInt32 b c s)) := by
  exact act_go (pc := 127) (kd := 2) (ci := 5) (na := 4) (mc := 3) (mk := 1) (lo := [some (.ref 0), some (.int (6 : Int32)), some (.long a), none, some (.int b), some (.int c), some (.int d), some (.int a.toInt32), none]) (st := [.int c, .int b, .int a.toInt32, .ref 0]) (f := fn_X7_ways) (go_ways hR a.toInt32 b c) rfl (Nat.le_of_ble_eq_true rfl) ((to_6 (6 : Int32) rfl a b c d M).elim fun n hn => ⟨n + 7, run_app n 7 _ _ _ hn (congrFun (congrFun (congrFun (congrFun (congrFun ba_6 a) b) c) d) M)⟩) (stp_call (Or.inr ⟨rfl, rfl⟩) rfl rfl rfl) rfl rfl (hnd_act rfl rfl rfl) (act_I (mc := 3) (fo_ways a.toInt32 b c s) (fun v M' => (congrFun (congrFun (congrFun (congrFun (congrFun (congrFun bb_6 a) b) c) d) v) M')))
set_option maxRecDepth 100000 in
theorem ba_7 : (fun (a : Int64) (b : Int32) (c : Int32) (d : Int32) (M : Mem) => run C_L_act 7 (134, [some (.ref 0), some (.int (7 : Int32)), some (.long a), none, some (.int b), some (.int c), some (.int d), some (.int a.toInt32), none], [], M, 0)) = (fun (a : Int64) (b : Int32) (c : Int32) (d : Int32) (M : Mem) => some (.inl (147, [some (.ref 0), some (.int (7 : Int32)), some (.long a), none, some (.int b), some (.int c), some (.int d), some (.int a.toInt32), none], [.int c, .int b, .int a.toInt32, .ref 0], M, 0))) := by rfl
set_option maxRecDepth 100000 in
theorem bb_7 : (fun (a : Int64) (b : Int32) (c : Int32) (d : Int32) (vl : Int64) (M : Mem) => run C_L_act 2 (150, [some (.ref 0), some (.int (7 : Int32)), some (.long a), none, some (.int b), some (.int c), some (.int d), some (.int a.toInt32), none], [.long vl], M, 3)) = (fun (a : Int64) (b : Int32) (c : Int32) (d : Int32) (vl : Int64) (M : Mem) => some (.inr (.inl (some (.long vl)), M, 3))) := by rfl
set_option maxRecDepth 100000 in
theorem act_7 {M : Mem} {s : HS} (hR : Rel M s) (a : Int64) (b c d : Int32) : Go (fnR C_L_act 9 [.ref 0, .int (7 : Int32), .long a, .int b, .int c, .int d] M) (cvA (p_popular a.toInt32 b c s)) := by
  exact act_go (pc := 147) (kd := 2) (ci := 5) (na := 4) (mc := 3) (mk := 1) (lo := [some (.ref 0), some (.int (7 : Int32)), some (.long a), none, some (.int b), some (.int c), some (.int d), some (.int a.toInt32), none]) (st := [.int c, .int b, .int a.toInt32, .ref 0]) (f := fn_X7_popular) (go_popular hR a.toInt32 b c) rfl (Nat.le_of_ble_eq_true rfl) ((to_7 (7 : Int32) rfl a b c d M).elim fun n hn => ⟨n + 7, run_app n 7 _ _ _ hn (congrFun (congrFun (congrFun (congrFun (congrFun ba_7 a) b) c) d) M)⟩) (stp_call (Or.inr ⟨rfl, rfl⟩) rfl rfl rfl) rfl rfl (hnd_act rfl rfl rfl) (act_L (mc := 3) (fo_popular a.toInt32 b c s) (fun v M' => (congrFun (congrFun (congrFun (congrFun (congrFun (congrFun bb_7 a) b) c) d) v) M')))
set_option maxRecDepth 100000 in
theorem ba_8 : (fun (a : Int64) (b : Int32) (c : Int32) (d : Int32) (M : Mem) => run C_L_act 6 (153, [some (.ref 0), some (.int (8 : Int32)), some (.long a), none, some (.int b), some (.int c), some (.int d), some (.int a.toInt32), none], [], M, 0)) = (fun (a : Int64) (b : Int32) (c : Int32) (d : Int32) (M : Mem) => some (.inl (164, [some (.ref 0), some (.int (8 : Int32)), some (.long a), none, some (.int b), some (.int c), some (.int d), some (.int a.toInt32), none], [.int b, .int a.toInt32, .ref 0], M, 0))) := by rfl
set_option maxRecDepth 100000 in
theorem bb_8 : (fun (a : Int64) (b : Int32) (c : Int32) (d : Int32) (v : Int32) (M : Mem) => run C_L_act 3 (167, [some (.ref 0), some (.int (8 : Int32)), some (.long a), none, some (.int b), some (.int c), some (.int d), some (.int a.toInt32), none], [.int v], M, 2)) = (fun (a : Int64) (b : Int32) (c : Int32) (d : Int32) (v : Int32) (M : Mem) => some (.inr (.inl (some (.long v.toInt64)), M, 2))) := by rfl
set_option maxRecDepth 100000 in
theorem act_8 {M : Mem} {s : HS} (hR : Rel M s) (a : Int64) (b c d : Int32) : Go (fnR C_L_act 9 [.ref 0, .int (8 : Int32), .long a, .int b, .int c, .int d] M) (cvA (p_energy a.toInt32 b s)) := by
  exact act_go (pc := 164) (kd := 2) (ci := 5) (na := 3) (mc := 2) (mk := 1) (lo := [some (.ref 0), some (.int (8 : Int32)), some (.long a), none, some (.int b), some (.int c), some (.int d), some (.int a.toInt32), none]) (st := [.int b, .int a.toInt32, .ref 0]) (f := fn_X7_energy) (go_energy hR a.toInt32 b) rfl (Nat.le_of_ble_eq_true rfl) ((to_8 (8 : Int32) rfl a b c d M).elim fun n hn => ⟨n + 6, run_app n 6 _ _ _ hn (congrFun (congrFun (congrFun (congrFun (congrFun ba_8 a) b) c) d) M)⟩) (stp_call (Or.inr ⟨rfl, rfl⟩) rfl rfl rfl) rfl rfl (hnd_act rfl rfl rfl) (act_I (mc := 2) (fo_energy a.toInt32 b s) (fun v M' => (congrFun (congrFun (congrFun (congrFun (congrFun (congrFun bb_8 a) b) c) d) v) M')))
set_option maxRecDepth 100000 in
theorem ba_9 : (fun (a : Int64) (b : Int32) (c : Int32) (d : Int32) (M : Mem) => run C_L_act 6 (171, [some (.ref 0), some (.int (9 : Int32)), some (.long a), none, some (.int b), some (.int c), some (.int d), some (.int a.toInt32), none], [], M, 0)) = (fun (a : Int64) (b : Int32) (c : Int32) (d : Int32) (M : Mem) => some (.inl (182, [some (.ref 0), some (.int (9 : Int32)), some (.long a), none, some (.int b), some (.int c), some (.int d), some (.int a.toInt32), none], [.int b, .int a.toInt32, .ref 0], M, 0))) := by rfl
set_option maxRecDepth 100000 in
theorem bb_9 : (fun (a : Int64) (b : Int32) (c : Int32) (d : Int32) (v : Int32) (M : Mem) => run C_L_act 3 (185, [some (.ref 0), some (.int (9 : Int32)), some (.long a), none, some (.int b), some (.int c), some (.int d), some (.int a.toInt32), none], [.int v], M, 2)) = (fun (a : Int64) (b : Int32) (c : Int32) (d : Int32) (v : Int32) (M : Mem) => some (.inr (.inl (some (.long v.toInt64)), M, 2))) := by rfl
set_option maxRecDepth 100000 in
theorem act_9 {M : Mem} {s : HS} (hR : Rel M s) (a : Int64) (b c d : Int32) : Go (fnR C_L_act 9 [.ref 0, .int (9 : Int32), .long a, .int b, .int c, .int d] M) (cvA (p_energyAnew a.toInt32 b s)) := by
  exact act_go (pc := 182) (kd := 2) (ci := 5) (na := 3) (mc := 2) (mk := 1) (lo := [some (.ref 0), some (.int (9 : Int32)), some (.long a), none, some (.int b), some (.int c), some (.int d), some (.int a.toInt32), none]) (st := [.int b, .int a.toInt32, .ref 0]) (f := fn_X7_energyAnew) (go_energyAnew hR a.toInt32 b) rfl (Nat.le_of_ble_eq_true rfl) ((to_9 (9 : Int32) rfl a b c d M).elim fun n hn => ⟨n + 6, run_app n 6 _ _ _ hn (congrFun (congrFun (congrFun (congrFun (congrFun ba_9 a) b) c) d) M)⟩) (stp_call (Or.inr ⟨rfl, rfl⟩) rfl rfl rfl) rfl rfl (hnd_act rfl rfl rfl) (act_I (mc := 2) (fo_energyAnew a.toInt32 b s) (fun v M' => (congrFun (congrFun (congrFun (congrFun (congrFun (congrFun bb_9 a) b) c) d) v) M')))
set_option maxRecDepth 100000 in
theorem ba_10 : (fun (a : Int64) (b : Int32) (c : Int32) (d : Int32) (M : Mem) => run C_L_act 5 (189, [some (.ref 0), some (.int (10 : Int32)), some (.long a), none, some (.int b), some (.int c), some (.int d), some (.int a.toInt32), none], [], M, 0)) = (fun (a : Int64) (b : Int32) (c : Int32) (d : Int32) (M : Mem) => some (.inl (198, [some (.ref 0), some (.int (10 : Int32)), some (.long a), none, some (.int b), some (.int c), some (.int d), some (.int a.toInt32), none], [.int a.toInt32, .ref 0], M, 0))) := by rfl
set_option maxRecDepth 100000 in
theorem bb_10 : (fun (a : Int64) (b : Int32) (c : Int32) (d : Int32) (vl : Int64) (M : Mem) => run C_L_act 2 (201, [some (.ref 0), some (.int (10 : Int32)), some (.long a), none, some (.int b), some (.int c), some (.int d), some (.int a.toInt32), none], [.long vl], M, 1)) = (fun (a : Int64) (b : Int32) (c : Int32) (d : Int32) (vl : Int64) (M : Mem) => some (.inr (.inl (some (.long vl)), M, 1))) := by rfl
set_option maxRecDepth 100000 in
theorem act_10 {M : Mem} {s : HS} (hR : Rel M s) (a : Int64) (b c d : Int32) : Go (fnR C_L_act 9 [.ref 0, .int (10 : Int32), .long a, .int b, .int c, .int d] M) (cvA (p_stabilizer a.toInt32 s)) := by
  exact act_go (pc := 198) (kd := 2) (ci := 5) (na := 2) (mc := 1) (mk := 1) (lo := [some (.ref 0), some (.int (10 : Int32)), some (.long a), none, some (.int b), some (.int c), some (.int d), some (.int a.toInt32), none]) (st := [.int a.toInt32, .ref 0]) (f := fn_X7_stabilizer) (go_stabilizer hR a.toInt32) rfl (Nat.le_of_ble_eq_true rfl) ((to_10 (10 : Int32) rfl a b c d M).elim fun n hn => ⟨n + 5, run_app n 5 _ _ _ hn (congrFun (congrFun (congrFun (congrFun (congrFun ba_10 a) b) c) d) M)⟩) (stp_call (Or.inr ⟨rfl, rfl⟩) rfl rfl rfl) rfl rfl (hnd_act rfl rfl rfl) (act_L (mc := 1) (fo_stabilizer a.toInt32 s) (fun v M' => (congrFun (congrFun (congrFun (congrFun (congrFun (congrFun bb_10 a) b) c) d) v) M')))
set_option maxRecDepth 100000 in
theorem ba_11 : (fun (a : Int64) (b : Int32) (c : Int32) (d : Int32) (M : Mem) => run C_L_act 6 (204, [some (.ref 0), some (.int (11 : Int32)), some (.long a), none, some (.int b), some (.int c), some (.int d), some (.int a.toInt32), none], [], M, 0)) = (fun (a : Int64) (b : Int32) (c : Int32) (d : Int32) (M : Mem) => some (.inl (215, [some (.ref 0), some (.int (11 : Int32)), some (.long a), none, some (.int b), some (.int c), some (.int d), some (.int a.toInt32), none], [.int b, .int a.toInt32, .ref 0], M, 0))) := by rfl
set_option maxRecDepth 100000 in
theorem bb_11 : (fun (a : Int64) (b : Int32) (c : Int32) (d : Int32) (v : Int32) (M : Mem) => run C_L_act 3 (218, [some (.ref 0), some (.int (11 : Int32)), some (.long a), none, some (.int b), some (.int c), some (.int d), some (.int a.toInt32), none], [.int v], M, 2)) = (fun (a : Int64) (b : Int32) (c : Int32) (d : Int32) (v : Int32) (M : Mem) => some (.inr (.inl (some (.long v.toInt64)), M, 2))) := by rfl
set_option maxRecDepth 100000 in
theorem act_11 {M : Mem} {s : HS} (hR : Rel M s) (a : Int64) (b c d : Int32) : Go (fnR C_L_act 9 [.ref 0, .int (11 : Int32), .long a, .int b, .int c, .int d] M) (cvA (p_excess a.toInt32 b s)) := by
  exact act_go (pc := 215) (kd := 2) (ci := 5) (na := 3) (mc := 2) (mk := 1) (lo := [some (.ref 0), some (.int (11 : Int32)), some (.long a), none, some (.int b), some (.int c), some (.int d), some (.int a.toInt32), none]) (st := [.int b, .int a.toInt32, .ref 0]) (f := fn_X7_excess) (go_excess hR a.toInt32 b) rfl (Nat.le_of_ble_eq_true rfl) ((to_11 (11 : Int32) rfl a b c d M).elim fun n hn => ⟨n + 6, run_app n 6 _ _ _ hn (congrFun (congrFun (congrFun (congrFun (congrFun ba_11 a) b) c) d) M)⟩) (stp_call (Or.inr ⟨rfl, rfl⟩) rfl rfl rfl) rfl rfl (hnd_act rfl rfl rfl) (act_I (mc := 2) (fo_excess a.toInt32 b s) (fun v M' => (congrFun (congrFun (congrFun (congrFun (congrFun (congrFun bb_11 a) b) c) d) v) M')))
set_option maxRecDepth 100000 in
theorem ba_12 : (fun (a : Int64) (b : Int32) (c : Int32) (d : Int32) (M : Mem) => run C_L_act 7 (222, [some (.ref 0), some (.int (12 : Int32)), some (.long a), none, some (.int b), some (.int c), some (.int d), some (.int a.toInt32), none], [], M, 0)) = (fun (a : Int64) (b : Int32) (c : Int32) (d : Int32) (M : Mem) => some (.inl (235, [some (.ref 0), some (.int (12 : Int32)), some (.long a), none, some (.int b), some (.int c), some (.int d), some (.int a.toInt32), none], [.int c, .int b, .int a.toInt32, .ref 0], M, 0))) := by rfl
set_option maxRecDepth 100000 in
theorem bb_12 : (fun (a : Int64) (b : Int32) (c : Int32) (d : Int32) (v : Int32) (M : Mem) => run C_L_act 3 (238, [some (.ref 0), some (.int (12 : Int32)), some (.long a), none, some (.int b), some (.int c), some (.int d), some (.int a.toInt32), none], [.int v], M, 3)) = (fun (a : Int64) (b : Int32) (c : Int32) (d : Int32) (v : Int32) (M : Mem) => some (.inr (.inl (some (.long v.toInt64)), M, 3))) := by rfl
set_option maxRecDepth 100000 in
theorem act_12 {M : Mem} {s : HS} (hR : Rel M s) (a : Int64) (b c d : Int32) : Go (fnR C_L_act 9 [.ref 0, .int (12 : Int32), .long a, .int b, .int c, .int d] M) (cvA (p_slack a.toInt32 b c s)) := by
  exact act_go (pc := 235) (kd := 2) (ci := 5) (na := 4) (mc := 3) (mk := 1) (lo := [some (.ref 0), some (.int (12 : Int32)), some (.long a), none, some (.int b), some (.int c), some (.int d), some (.int a.toInt32), none]) (st := [.int c, .int b, .int a.toInt32, .ref 0]) (f := fn_X7_slack) (go_slack hR a.toInt32 b c) rfl (Nat.le_of_ble_eq_true rfl) ((to_12 (12 : Int32) rfl a b c d M).elim fun n hn => ⟨n + 7, run_app n 7 _ _ _ hn (congrFun (congrFun (congrFun (congrFun (congrFun ba_12 a) b) c) d) M)⟩) (stp_call (Or.inr ⟨rfl, rfl⟩) rfl rfl rfl) rfl rfl (hnd_act rfl rfl rfl) (act_I (mc := 3) (fo_slack a.toInt32 b c s) (fun v M' => (congrFun (congrFun (congrFun (congrFun (congrFun (congrFun bb_12 a) b) c) d) v) M')))
set_option maxRecDepth 100000 in
theorem ba_13 : (fun (a : Int64) (b : Int32) (c : Int32) (d : Int32) (M : Mem) => run C_L_act 6 (242, [some (.ref 0), some (.int (13 : Int32)), some (.long a), none, some (.int b), some (.int c), some (.int d), some (.int a.toInt32), none], [], M, 0)) = (fun (a : Int64) (b : Int32) (c : Int32) (d : Int32) (M : Mem) => some (.inl (253, [some (.ref 0), some (.int (13 : Int32)), some (.long a), none, some (.int b), some (.int c), some (.int d), some (.int a.toInt32), none], [.int b, .int a.toInt32, .ref 0], M, 0))) := by rfl
set_option maxRecDepth 100000 in
theorem bb_13 : (fun (a : Int64) (b : Int32) (c : Int32) (d : Int32) (vl : Int64) (M : Mem) => run C_L_act 2 (256, [some (.ref 0), some (.int (13 : Int32)), some (.long a), none, some (.int b), some (.int c), some (.int d), some (.int a.toInt32), none], [.long vl], M, 2)) = (fun (a : Int64) (b : Int32) (c : Int32) (d : Int32) (vl : Int64) (M : Mem) => some (.inr (.inl (some (.long vl)), M, 2))) := by rfl
set_option maxRecDepth 100000 in
theorem act_13 {M : Mem} {s : HS} (hR : Rel M s) (a : Int64) (b c d : Int32) : Go (fnR C_L_act 9 [.ref 0, .int (13 : Int32), .long a, .int b, .int c, .int d] M) (cvA (p_cover a.toInt32 b s)) := by
  exact act_go (pc := 253) (kd := 2) (ci := 5) (na := 3) (mc := 2) (mk := 1) (lo := [some (.ref 0), some (.int (13 : Int32)), some (.long a), none, some (.int b), some (.int c), some (.int d), some (.int a.toInt32), none]) (st := [.int b, .int a.toInt32, .ref 0]) (f := fn_X7_cover) (go_cover hR a.toInt32 b) rfl (Nat.le_of_ble_eq_true rfl) ((to_13 (13 : Int32) rfl a b c d M).elim fun n hn => ⟨n + 6, run_app n 6 _ _ _ hn (congrFun (congrFun (congrFun (congrFun (congrFun ba_13 a) b) c) d) M)⟩) (stp_call (Or.inr ⟨rfl, rfl⟩) rfl rfl rfl) rfl rfl (hnd_act rfl rfl rfl) (act_L (mc := 2) (fo_cover a.toInt32 b s) (fun v M' => (congrFun (congrFun (congrFun (congrFun (congrFun (congrFun bb_13 a) b) c) d) v) M')))
set_option maxRecDepth 100000 in
theorem ba_14 : (fun (a : Int64) (b : Int32) (c : Int32) (d : Int32) (M : Mem) => run C_L_act 6 (259, [some (.ref 0), some (.int (14 : Int32)), some (.long a), none, some (.int b), some (.int c), some (.int d), some (.int a.toInt32), none], [], M, 0)) = (fun (a : Int64) (b : Int32) (c : Int32) (d : Int32) (M : Mem) => some (.inl (270, [some (.ref 0), some (.int (14 : Int32)), some (.long a), none, some (.int b), some (.int c), some (.int d), some (.int a.toInt32), none], [.int b, .int a.toInt32, .ref 0], M, 0))) := by rfl
set_option maxRecDepth 100000 in
theorem bb_14 : (fun (a : Int64) (b : Int32) (c : Int32) (d : Int32) (vl : Int64) (M : Mem) => run C_L_act 2 (273, [some (.ref 0), some (.int (14 : Int32)), some (.long a), none, some (.int b), some (.int c), some (.int d), some (.int a.toInt32), none], [.long vl], M, 2)) = (fun (a : Int64) (b : Int32) (c : Int32) (d : Int32) (vl : Int64) (M : Mem) => some (.inr (.inl (some (.long vl)), M, 2))) := by rfl
set_option maxRecDepth 100000 in
theorem act_14 {M : Mem} {s : HS} (hR : Rel M s) (a : Int64) (b c d : Int32) : Go (fnR C_L_act 9 [.ref 0, .int (14 : Int32), .long a, .int b, .int c, .int d] M) (cvA (p_sums a.toInt32 b s)) := by
  exact act_go (pc := 270) (kd := 2) (ci := 5) (na := 3) (mc := 2) (mk := 1) (lo := [some (.ref 0), some (.int (14 : Int32)), some (.long a), none, some (.int b), some (.int c), some (.int d), some (.int a.toInt32), none]) (st := [.int b, .int a.toInt32, .ref 0]) (f := fn_X7_sums) (go_sums hR a.toInt32 b) rfl (Nat.le_of_ble_eq_true rfl) ((to_14 (14 : Int32) rfl a b c d M).elim fun n hn => ⟨n + 6, run_app n 6 _ _ _ hn (congrFun (congrFun (congrFun (congrFun (congrFun ba_14 a) b) c) d) M)⟩) (stp_call (Or.inr ⟨rfl, rfl⟩) rfl rfl rfl) rfl rfl (hnd_act rfl rfl rfl) (act_L (mc := 2) (fo_sums a.toInt32 b s) (fun v M' => (congrFun (congrFun (congrFun (congrFun (congrFun (congrFun bb_14 a) b) c) d) v) M')))
set_option maxRecDepth 100000 in
theorem ba_15 : (fun (a : Int64) (b : Int32) (c : Int32) (d : Int32) (M : Mem) => run C_L_act 5 (276, [some (.ref 0), some (.int (15 : Int32)), some (.long a), none, some (.int b), some (.int c), some (.int d), some (.int a.toInt32), none], [], M, 0)) = (fun (a : Int64) (b : Int32) (c : Int32) (d : Int32) (M : Mem) => some (.inl (285, [some (.ref 0), some (.int (15 : Int32)), some (.long a), none, some (.int b), some (.int c), some (.int d), some (.int a.toInt32), none], [.int a.toInt32, .ref 0], M, 0))) := by rfl
set_option maxRecDepth 100000 in
theorem bb_15 : (fun (a : Int64) (b : Int32) (c : Int32) (d : Int32) (v : Int32) (M : Mem) => run C_L_act 3 (288, [some (.ref 0), some (.int (15 : Int32)), some (.long a), none, some (.int b), some (.int c), some (.int d), some (.int a.toInt32), none], [.int v], M, 1)) = (fun (a : Int64) (b : Int32) (c : Int32) (d : Int32) (v : Int32) (M : Mem) => some (.inr (.inl (some (.long v.toInt64)), M, 1))) := by rfl
set_option maxRecDepth 100000 in
theorem act_15 {M : Mem} {s : HS} (hR : Rel M s) (a : Int64) (b c d : Int32) : Go (fnR C_L_act 9 [.ref 0, .int (15 : Int32), .long a, .int b, .int c, .int d] M) (cvA (p_order a.toInt32 s)) := by
  exact act_go (pc := 285) (kd := 2) (ci := 5) (na := 2) (mc := 1) (mk := 1) (lo := [some (.ref 0), some (.int (15 : Int32)), some (.long a), none, some (.int b), some (.int c), some (.int d), some (.int a.toInt32), none]) (st := [.int a.toInt32, .ref 0]) (f := fn_X7_order) (go_order hR a.toInt32) rfl (Nat.le_of_ble_eq_true rfl) ((to_15 (15 : Int32) rfl a b c d M).elim fun n hn => ⟨n + 5, run_app n 5 _ _ _ hn (congrFun (congrFun (congrFun (congrFun (congrFun ba_15 a) b) c) d) M)⟩) (stp_call (Or.inr ⟨rfl, rfl⟩) rfl rfl rfl) rfl rfl (hnd_act rfl rfl rfl) (act_I (mc := 1) (fo_order a.toInt32 s) (fun v M' => (congrFun (congrFun (congrFun (congrFun (congrFun (congrFun bb_15 a) b) c) d) v) M')))
set_option maxRecDepth 100000 in
theorem ba_16 : (fun (a : Int64) (b : Int32) (c : Int32) (d : Int32) (M : Mem) => run C_L_act 5 (292, [some (.ref 0), some (.int (16 : Int32)), some (.long a), none, some (.int b), some (.int c), some (.int d), some (.int a.toInt32), none], [], M, 0)) = (fun (a : Int64) (b : Int32) (c : Int32) (d : Int32) (M : Mem) => some (.inl (301, [some (.ref 0), some (.int (16 : Int32)), some (.long a), none, some (.int b), some (.int c), some (.int d), some (.int a.toInt32), none], [.int a.toInt32, .ref 0], M, 0))) := by rfl
set_option maxRecDepth 100000 in
theorem bb_16 : (fun (a : Int64) (b : Int32) (c : Int32) (d : Int32) (vl : Int64) (M : Mem) => run C_L_act 2 (304, [some (.ref 0), some (.int (16 : Int32)), some (.long a), none, some (.int b), some (.int c), some (.int d), some (.int a.toInt32), none], [.long vl], M, 1)) = (fun (a : Int64) (b : Int32) (c : Int32) (d : Int32) (vl : Int64) (M : Mem) => some (.inr (.inl (some (.long vl)), M, 1))) := by rfl
set_option maxRecDepth 100000 in
theorem act_16 {M : Mem} {s : HS} (hR : Rel M s) (a : Int64) (b c d : Int32) : Go (fnR C_L_act 9 [.ref 0, .int (16 : Int32), .long a, .int b, .int c, .int d] M) (cvA (p_essential a.toInt32 s)) := by
  exact act_go (pc := 301) (kd := 2) (ci := 5) (na := 2) (mc := 1) (mk := 1) (lo := [some (.ref 0), some (.int (16 : Int32)), some (.long a), none, some (.int b), some (.int c), some (.int d), some (.int a.toInt32), none]) (st := [.int a.toInt32, .ref 0]) (f := fn_X7_essential) (go_essential hR a.toInt32) rfl (Nat.le_of_ble_eq_true rfl) ((to_16 (16 : Int32) rfl a b c d M).elim fun n hn => ⟨n + 5, run_app n 5 _ _ _ hn (congrFun (congrFun (congrFun (congrFun (congrFun ba_16 a) b) c) d) M)⟩) (stp_call (Or.inr ⟨rfl, rfl⟩) rfl rfl rfl) rfl rfl (hnd_act rfl rfl rfl) (act_L (mc := 1) (fo_essential a.toInt32 s) (fun v M' => (congrFun (congrFun (congrFun (congrFun (congrFun (congrFun bb_16 a) b) c) d) v) M')))
set_option maxRecDepth 100000 in
theorem ba_17 : (fun (a : Int64) (b : Int32) (c : Int32) (d : Int32) (M : Mem) => run C_L_act 8 (307, [some (.ref 0), some (.int (17 : Int32)), some (.long a), none, some (.int b), some (.int c), some (.int d), some (.int a.toInt32), none], [], M, 0)) = (fun (a : Int64) (b : Int32) (c : Int32) (d : Int32) (M : Mem) => some (.inl (322, [some (.ref 0), some (.int (17 : Int32)), some (.long a), none, some (.int b), some (.int c), some (.int d), some (.int a.toInt32), none], [.int d, .int c, .int b, .int a.toInt32, .ref 0], M, 0))) := by rfl
set_option maxRecDepth 100000 in
theorem bb_17 : (fun (a : Int64) (b : Int32) (c : Int32) (d : Int32) (v : Int32) (M : Mem) => run C_L_act 3 (325, [some (.ref 0), some (.int (17 : Int32)), some (.long a), none, some (.int b), some (.int c), some (.int d), some (.int a.toInt32), none], [.int v], M, 4)) = (fun (a : Int64) (b : Int32) (c : Int32) (d : Int32) (v : Int32) (M : Mem) => some (.inr (.inl (some (.long v.toInt64)), M, 4))) := by rfl
set_option maxRecDepth 100000 in
theorem act_17 {M : Mem} {s : HS} (hR : Rel M s) (a : Int64) (b c d : Int32) : Go (fnR C_L_act 9 [.ref 0, .int (17 : Int32), .long a, .int b, .int c, .int d] M) (cvA (p_image a.toInt32 b c d s)) := by
  exact act_go (pc := 322) (kd := 2) (ci := 5) (na := 5) (mc := 4) (mk := 1) (lo := [some (.ref 0), some (.int (17 : Int32)), some (.long a), none, some (.int b), some (.int c), some (.int d), some (.int a.toInt32), none]) (st := [.int d, .int c, .int b, .int a.toInt32, .ref 0]) (f := fn_X7_image) (go_image hR a.toInt32 b c d) rfl (Nat.le_of_ble_eq_true rfl) ((to_17 (17 : Int32) rfl a b c d M).elim fun n hn => ⟨n + 8, run_app n 8 _ _ _ hn (congrFun (congrFun (congrFun (congrFun (congrFun ba_17 a) b) c) d) M)⟩) (stp_call (Or.inr ⟨rfl, rfl⟩) rfl rfl rfl) rfl rfl (hnd_act rfl rfl rfl) (act_I (mc := 4) (fo_image a.toInt32 b c d s) (fun v M' => (congrFun (congrFun (congrFun (congrFun (congrFun (congrFun bb_17 a) b) c) d) v) M')))
set_option maxRecDepth 100000 in
theorem ba_18 : (fun (a : Int64) (b : Int32) (c : Int32) (d : Int32) (M : Mem) => run C_L_act 7 (329, [some (.ref 0), some (.int (18 : Int32)), some (.long a), none, some (.int b), some (.int c), some (.int d), some (.int a.toInt32), none], [], M, 0)) = (fun (a : Int64) (b : Int32) (c : Int32) (d : Int32) (M : Mem) => some (.inl (342, [some (.ref 0), some (.int (18 : Int32)), some (.long a), none, some (.int b), some (.int c), some (.int d), some (.int a.toInt32), none], [.int c, .int b, .int a.toInt32, .ref 0], M, 0))) := by rfl
set_option maxRecDepth 100000 in
theorem bb_18 : (fun (a : Int64) (b : Int32) (c : Int32) (d : Int32) (v : Int32) (M : Mem) => run C_L_act 3 (345, [some (.ref 0), some (.int (18 : Int32)), some (.long a), none, some (.int b), some (.int c), some (.int d), some (.int a.toInt32), none], [.int v], M, 3)) = (fun (a : Int64) (b : Int32) (c : Int32) (d : Int32) (v : Int32) (M : Mem) => some (.inr (.inl (some (.long v.toInt64)), M, 3))) := by rfl
set_option maxRecDepth 100000 in
theorem act_18 {M : Mem} {s : HS} (hR : Rel M s) (a : Int64) (b c d : Int32) : Go (fnR C_L_act 9 [.ref 0, .int (18 : Int32), .long a, .int b, .int c, .int d] M) (cvA (p_maps a.toInt32 b c s)) := by
  exact act_go (pc := 342) (kd := 2) (ci := 5) (na := 4) (mc := 3) (mk := 1) (lo := [some (.ref 0), some (.int (18 : Int32)), some (.long a), none, some (.int b), some (.int c), some (.int d), some (.int a.toInt32), none]) (st := [.int c, .int b, .int a.toInt32, .ref 0]) (f := fn_X7_maps) (go_maps hR a.toInt32 b c) rfl (Nat.le_of_ble_eq_true rfl) ((to_18 (18 : Int32) rfl a b c d M).elim fun n hn => ⟨n + 7, run_app n 7 _ _ _ hn (congrFun (congrFun (congrFun (congrFun (congrFun ba_18 a) b) c) d) M)⟩) (stp_call (Or.inr ⟨rfl, rfl⟩) rfl rfl rfl) rfl rfl (hnd_act rfl rfl rfl) (act_I (mc := 3) (fo_maps a.toInt32 b c s) (fun v M' => (congrFun (congrFun (congrFun (congrFun (congrFun (congrFun bb_18 a) b) c) d) v) M')))
set_option maxRecDepth 100000 in
theorem ba_19 : (fun (a : Int64) (b : Int32) (c : Int32) (d : Int32) (M : Mem) => run C_L_act 6 (349, [some (.ref 0), some (.int (19 : Int32)), some (.long a), none, some (.int b), some (.int c), some (.int d), some (.int a.toInt32), none], [], M, 0)) = (fun (a : Int64) (b : Int32) (c : Int32) (d : Int32) (M : Mem) => some (.inl (360, [some (.ref 0), some (.int (19 : Int32)), some (.long a), none, some (.int b), some (.int c), some (.int d), some (.int a.toInt32), none], [.int b, .int a.toInt32, .ref 0], M, 0))) := by rfl
set_option maxRecDepth 100000 in
theorem bb_19_0 : (fun (a : Int64) (b : Int32) (c : Int32) (d : Int32) (M : Mem) => run C_L_act 5 (363, [some (.ref 0), some (.int (19 : Int32)), some (.long a), none, some (.int b), some (.int c), some (.int d), some (.int a.toInt32), none], [.int (0 : Int32)], M, 2)) = (fun (a : Int64) (b : Int32) (c : Int32) (d : Int32) (M : Mem) => some (.inr (.inl (some (.long ((0 : Int32).toInt64))), M, 2))) := by rfl
set_option maxRecDepth 100000 in
theorem bb_19_1 : (fun (a : Int64) (b : Int32) (c : Int32) (d : Int32) (M : Mem) => run C_L_act 6 (363, [some (.ref 0), some (.int (19 : Int32)), some (.long a), none, some (.int b), some (.int c), some (.int d), some (.int a.toInt32), none], [.int (1 : Int32)], M, 2)) = (fun (a : Int64) (b : Int32) (c : Int32) (d : Int32) (M : Mem) => some (.inr (.inl (some (.long ((1 : Int32).toInt64))), M, 2))) := by rfl
theorem fo_keeps2 (v1 v2 : Int32) (s : HS) : (∃ k, (p_keeps v1 v2 s).1 = .inr k) ∨ ∃ b, p_keeps v1 v2 s = aI (boI b) s := by
  unfold p_keeps
  refine any_onS (P := fun x => (∃ k, x.1 = .inr k) ∨ ∃ b, x = aI (boI b) s) (fun _ => any_onO (P := fun x => (∃ k, x.1 = .inr k) ∨ ∃ b, x = aI (boI b) s) (fun _ => Or.inr ⟨_, rfl⟩) (Or.inl ⟨1, rfl⟩)) (Or.inl ⟨1, rfl⟩)
set_option maxRecDepth 100000 in
theorem act_19 {M : Mem} {s : HS} (hR : Rel M s) (a : Int64) (b c d : Int32) : Go (fnR C_L_act 9 [.ref 0, .int (19 : Int32), .long a, .int b, .int c, .int d] M) (cvA (p_keeps a.toInt32 b s)) := by
  refine act_go (pc := 360) (kd := 2) (ci := 5) (na := 3) (mc := 2) (mk := 1) (lo := [some (.ref 0), some (.int (19 : Int32)), some (.long a), none, some (.int b), some (.int c), some (.int d), some (.int a.toInt32), none]) (st := [.int b, .int a.toInt32, .ref 0]) (f := fn_X7_keeps) (go_keeps hR a.toInt32 b) rfl (Nat.le_of_ble_eq_true rfl) ((to_19 (19 : Int32) rfl a b c d M).elim fun n hn => ⟨n + 6, run_app n 6 _ _ _ hn (congrFun (congrFun (congrFun (congrFun (congrFun ba_19 a) b) c) d) M)⟩) (stp_call (Or.inr ⟨rfl, rfl⟩) rfl rfl rfl) rfl rfl (hnd_act rfl rfl rfl) (fun v M' hv => ?_)
  rcases fo_keeps2 a.toInt32 b s with ⟨k, hk⟩ | ⟨q, hq⟩
  · rw [hk] at hv; cases hv
  · rw [hq] at hv ⊢
    cases q with
    | false =>
      cases hv
      exact ⟨5, 2, .long ((0 : Int32).toInt64), (congrFun (congrFun (congrFun (congrFun (congrFun bb_19_0 a) b) c) d) M'), rfl⟩
    | true =>
      cases hv
      exact ⟨6, 2, .long ((1 : Int32).toInt64), (congrFun (congrFun (congrFun (congrFun (congrFun bb_19_1 a) b) c) d) M'), rfl⟩
set_option maxRecDepth 100000 in
theorem ba_20 : (fun (a : Int64) (b : Int32) (c : Int32) (d : Int32) (M : Mem) => run C_L_act 6 (375, [some (.ref 0), some (.int (20 : Int32)), some (.long a), none, some (.int b), some (.int c), some (.int d), some (.int a.toInt32), none], [], M, 0)) = (fun (a : Int64) (b : Int32) (c : Int32) (d : Int32) (M : Mem) => some (.inl (386, [some (.ref 0), some (.int (20 : Int32)), some (.long a), none, some (.int b), some (.int c), some (.int d), some (.int a.toInt32), none], [.int b, .int a.toInt32, .ref 0], M, 0))) := by rfl
set_option maxRecDepth 100000 in
theorem bb_20 : (fun (a : Int64) (b : Int32) (c : Int32) (d : Int32) (vl : Int64) (M : Mem) => run C_L_act 2 (389, [some (.ref 0), some (.int (20 : Int32)), some (.long a), none, some (.int b), some (.int c), some (.int d), some (.int a.toInt32), none], [.long vl], M, 3)) = (fun (a : Int64) (b : Int32) (c : Int32) (d : Int32) (vl : Int64) (M : Mem) => some (.inr (.inl (some (.long vl)), M, 3))) := by rfl
set_option maxRecDepth 100000 in
theorem act_20 {M : Mem} {s : HS} (hR : Rel M s) (a : Int64) (b c d : Int32) : Go (fnR C_L_act 9 [.ref 0, .int (20 : Int32), .long a, .int b, .int c, .int d] M) (cvA (p_greatest a.toInt32 b s)) := by
  exact act_go (pc := 386) (kd := 2) (ci := 5) (na := 3) (mc := 3) (mk := 1) (lo := [some (.ref 0), some (.int (20 : Int32)), some (.long a), none, some (.int b), some (.int c), some (.int d), some (.int a.toInt32), none]) (st := [.int b, .int a.toInt32, .ref 0]) (f := fn_X7_greatest) (go_greatest hR a.toInt32 b) rfl (Nat.le_of_ble_eq_true rfl) ((to_20 (20 : Int32) rfl a b c d M).elim fun n hn => ⟨n + 6, run_app n 6 _ _ _ hn (congrFun (congrFun (congrFun (congrFun (congrFun ba_20 a) b) c) d) M)⟩) (stp_call (Or.inr ⟨rfl, rfl⟩) rfl rfl rfl) rfl rfl (hnd_act rfl rfl rfl) (act_L (mc := 3) (fo_greatest a.toInt32 b s) (fun v M' => (congrFun (congrFun (congrFun (congrFun (congrFun (congrFun bb_20 a) b) c) d) v) M')))
set_option maxRecDepth 100000 in
theorem ba_21 : (fun (a : Int64) (b : Int32) (c : Int32) (d : Int32) (M : Mem) => run C_L_act 6 (392, [some (.ref 0), some (.int (21 : Int32)), some (.long a), none, some (.int b), some (.int c), some (.int d), some (.int a.toInt32), none], [], M, 0)) = (fun (a : Int64) (b : Int32) (c : Int32) (d : Int32) (M : Mem) => some (.inl (403, [some (.ref 0), some (.int (21 : Int32)), some (.long a), none, some (.int b), some (.int c), some (.int d), some (.int a.toInt32), none], [.int b, .int a.toInt32, .ref 0], M, 0))) := by rfl
set_option maxRecDepth 100000 in
theorem bb_21 : (fun (a : Int64) (b : Int32) (c : Int32) (d : Int32) (vl : Int64) (M : Mem) => run C_L_act 2 (406, [some (.ref 0), some (.int (21 : Int32)), some (.long a), none, some (.int b), some (.int c), some (.int d), some (.int a.toInt32), none], [.long vl], M, 3)) = (fun (a : Int64) (b : Int32) (c : Int32) (d : Int32) (vl : Int64) (M : Mem) => some (.inr (.inl (some (.long vl)), M, 3))) := by rfl
set_option maxRecDepth 100000 in
theorem act_21 {M : Mem} {s : HS} (hR : Rel M s) (a : Int64) (b c d : Int32) : Go (fnR C_L_act 9 [.ref 0, .int (21 : Int32), .long a, .int b, .int c, .int d] M) (cvA (p_greatest a.toInt32 b s)) := by
  exact act_go (pc := 403) (kd := 2) (ci := 5) (na := 3) (mc := 3) (mk := 1) (lo := [some (.ref 0), some (.int (21 : Int32)), some (.long a), none, some (.int b), some (.int c), some (.int d), some (.int a.toInt32), none]) (st := [.int b, .int a.toInt32, .ref 0]) (f := fn_X7_greatestAnew) (go_greatestAnew hR a.toInt32 b) rfl (Nat.le_of_ble_eq_true rfl) ((to_21 (21 : Int32) rfl a b c d M).elim fun n hn => ⟨n + 6, run_app n 6 _ _ _ hn (congrFun (congrFun (congrFun (congrFun (congrFun ba_21 a) b) c) d) M)⟩) (stp_call (Or.inr ⟨rfl, rfl⟩) rfl rfl rfl) rfl rfl (hnd_act rfl rfl rfl) (act_L (mc := 3) (fo_greatest a.toInt32 b s) (fun v M' => (congrFun (congrFun (congrFun (congrFun (congrFun (congrFun bb_21 a) b) c) d) v) M')))
set_option maxRecDepth 100000 in
theorem ba_22 : (fun (a : Int64) (b : Int32) (c : Int32) (d : Int32) (M : Mem) => run C_L_act 6 (409, [some (.ref 0), some (.int (22 : Int32)), some (.long a), none, some (.int b), some (.int c), some (.int d), some (.int a.toInt32), none], [], M, 0)) = (fun (a : Int64) (b : Int32) (c : Int32) (d : Int32) (M : Mem) => some (.inl (419, [some (.ref 0), some (.int (22 : Int32)), some (.long a), none, some (.int b), some (.int c), some (.int d), some (.int a.toInt32), none], [.long a, .int b, .ref 0], M, 0))) := by rfl
set_option maxRecDepth 100000 in
theorem bb_22 : (fun (a : Int64) (b : Int32) (c : Int32) (d : Int32) (vl : Int64) (M : Mem) => run C_L_act 2 (422, [some (.ref 0), some (.int (22 : Int32)), some (.long a), none, some (.int b), some (.int c), some (.int d), some (.int a.toInt32), none], [.long vl], M, 2)) = (fun (a : Int64) (b : Int32) (c : Int32) (d : Int32) (vl : Int64) (M : Mem) => some (.inr (.inl (some (.long vl)), M, 2))) := by rfl
set_option maxRecDepth 100000 in
theorem act_22 {M : Mem} {s : HS} (hR : Rel M s) (a : Int64) (b c d : Int32) : Go (fnR C_L_act 9 [.ref 0, .int (22 : Int32), .long a, .int b, .int c, .int d] M) (cvA (p_wins b a s)) := by
  exact act_go (pc := 419) (kd := 2) (ci := 5) (na := 3) (mc := 2) (mk := 1) (lo := [some (.ref 0), some (.int (22 : Int32)), some (.long a), none, some (.int b), some (.int c), some (.int d), some (.int a.toInt32), none]) (st := [.long a, .int b, .ref 0]) (f := fn_X7_wins) (go_wins hR b a) rfl (Nat.le_of_ble_eq_true rfl) ((to_22 (22 : Int32) rfl a b c d M).elim fun n hn => ⟨n + 6, run_app n 6 _ _ _ hn (congrFun (congrFun (congrFun (congrFun (congrFun ba_22 a) b) c) d) M)⟩) (stp_call (Or.inr ⟨rfl, rfl⟩) rfl rfl rfl) rfl rfl (hnd_act rfl rfl rfl) (act_L (mc := 2) (fo_wins b a s) (fun v M' => (congrFun (congrFun (congrFun (congrFun (congrFun (congrFun bb_22 a) b) c) d) v) M')))
set_option maxRecDepth 100000 in
theorem ba_23 : (fun (a : Int64) (b : Int32) (c : Int32) (d : Int32) (M : Mem) => run C_L_act 5 (425, [some (.ref 0), some (.int (23 : Int32)), some (.long a), none, some (.int b), some (.int c), some (.int d), some (.int a.toInt32), none], [], M, 0)) = (fun (a : Int64) (b : Int32) (c : Int32) (d : Int32) (M : Mem) => some (.inl (434, [some (.ref 0), some (.int (23 : Int32)), some (.long a), none, some (.int b), some (.int c), some (.int d), some (.int a.toInt32), none], [.int a.toInt32, .ref 0], M, 0))) := by rfl
set_option maxRecDepth 100000 in
theorem bb_23 : (fun (a : Int64) (b : Int32) (c : Int32) (d : Int32) (v : Int32) (M : Mem) => run C_L_act 3 (437, [some (.ref 0), some (.int (23 : Int32)), some (.long a), none, some (.int b), some (.int c), some (.int d), some (.int a.toInt32), none], [.int v], M, 2)) = (fun (a : Int64) (b : Int32) (c : Int32) (d : Int32) (v : Int32) (M : Mem) => some (.inr (.inl (some (.long v.toInt64)), M, 2))) := by rfl
set_option maxRecDepth 100000 in
theorem act_23 {M : Mem} {s : HS} (hR : Rel M s) (a : Int64) (b c d : Int32) : Go (fnR C_L_act 9 [.ref 0, .int (23 : Int32), .long a, .int b, .int c, .int d] M) (cvA (p_put a.toInt32 s)) := by
  exact act_go (pc := 434) (kd := 2) (ci := 5) (na := 2) (mc := 2) (mk := 1) (lo := [some (.ref 0), some (.int (23 : Int32)), some (.long a), none, some (.int b), some (.int c), some (.int d), some (.int a.toInt32), none]) (st := [.int a.toInt32, .ref 0]) (f := fn_X7_put) (go_put hR a.toInt32) rfl (Nat.le_of_ble_eq_true rfl) ((to_23 (23 : Int32) rfl a b c d M).elim fun n hn => ⟨n + 5, run_app n 5 _ _ _ hn (congrFun (congrFun (congrFun (congrFun (congrFun ba_23 a) b) c) d) M)⟩) (stp_call (Or.inr ⟨rfl, rfl⟩) rfl rfl rfl) rfl rfl (hnd_act rfl rfl rfl) (act_I (mc := 2) (fo_put a.toInt32 s) (fun v M' => (congrFun (congrFun (congrFun (congrFun (congrFun (congrFun bb_23 a) b) c) d) v) M')))
set_option maxRecDepth 100000 in
theorem ba_24 : (fun (a : Int64) (b : Int32) (c : Int32) (d : Int32) (M : Mem) => run C_L_act 4 (441, [some (.ref 0), some (.int (24 : Int32)), some (.long a), none, some (.int b), some (.int c), some (.int d), some (.int a.toInt32), none], [], M, 0)) = (fun (a : Int64) (b : Int32) (c : Int32) (d : Int32) (M : Mem) => some (.inl (448, [some (.ref 0), some (.int (24 : Int32)), some (.long a), none, some (.int b), some (.int c), some (.int d), some (.int a.toInt32), none], [.ref 0], M, 0))) := by rfl
set_option maxRecDepth 100000 in
theorem bb_24 : (fun (a : Int64) (b : Int32) (c : Int32) (d : Int32) (v : Int32) (M : Mem) => run C_L_act 3 (451, [some (.ref 0), some (.int (24 : Int32)), some (.long a), none, some (.int b), some (.int c), some (.int d), some (.int a.toInt32), none], [.int v], M, 1)) = (fun (a : Int64) (b : Int32) (c : Int32) (d : Int32) (v : Int32) (M : Mem) => some (.inr (.inl (some (.long v.toInt64)), M, 1))) := by rfl
set_option maxRecDepth 100000 in
theorem act_24 {M : Mem} {s : HS} (hR : Rel M s) (a : Int64) (b c d : Int32) : Go (fnR C_L_act 9 [.ref 0, .int (24 : Int32), .long a, .int b, .int c, .int d] M) (cvA (p_constant s)) := by
  exact act_go (pc := 448) (kd := 2) (ci := 5) (na := 1) (mc := 1) (mk := 1) (lo := [some (.ref 0), some (.int (24 : Int32)), some (.long a), none, some (.int b), some (.int c), some (.int d), some (.int a.toInt32), none]) (st := [.ref 0]) (f := fn_X7_constant) (go_constant hR) rfl (Nat.le_of_ble_eq_true rfl) ((to_24 (24 : Int32) rfl a b c d M).elim fun n hn => ⟨n + 4, run_app n 4 _ _ _ hn (congrFun (congrFun (congrFun (congrFun (congrFun ba_24 a) b) c) d) M)⟩) (stp_call (Or.inr ⟨rfl, rfl⟩) rfl rfl rfl) rfl rfl (hnd_act rfl rfl rfl) (act_I (mc := 1) (fo_constant s) (fun v M' => (congrFun (congrFun (congrFun (congrFun (congrFun (congrFun bb_24 a) b) c) d) v) M')))
set_option maxRecDepth 100000 in
theorem ba_25 : (fun (a : Int64) (b : Int32) (c : Int32) (d : Int32) (M : Mem) => run C_L_act 6 (455, [some (.ref 0), some (.int (25 : Int32)), some (.long a), none, some (.int b), some (.int c), some (.int d), some (.int a.toInt32), none], [], M, 0)) = (fun (a : Int64) (b : Int32) (c : Int32) (d : Int32) (M : Mem) => some (.inl (466, [some (.ref 0), some (.int (25 : Int32)), some (.long a), none, some (.int b), some (.int c), some (.int d), some (.int a.toInt32), none], [.int b, .int a.toInt32, .ref 0], M, 0))) := by rfl
set_option maxRecDepth 100000 in
theorem bb_25 : (fun (a : Int64) (b : Int32) (c : Int32) (d : Int32) (v : Int32) (M : Mem) => run C_L_act 3 (469, [some (.ref 0), some (.int (25 : Int32)), some (.long a), none, some (.int b), some (.int c), some (.int d), some (.int a.toInt32), none], [.int v], M, 1)) = (fun (a : Int64) (b : Int32) (c : Int32) (d : Int32) (v : Int32) (M : Mem) => some (.inr (.inl (some (.long v.toInt64)), M, 1))) := by rfl
set_option maxRecDepth 100000 in
theorem act_25 {M : Mem} {s : HS} (hR : Rel M s) (a : Int64) (b c d : Int32) : Go (fnR C_L_act 9 [.ref 0, .int (25 : Int32), .long a, .int b, .int c, .int d] M) (cvA (p_Lroot a.toInt32 b s)) := by
  exact act_go (pc := 466) (kd := 0) (ci := 0) (na := 3) (mc := 1) (mk := 0) (lo := [some (.ref 0), some (.int (25 : Int32)), some (.long a), none, some (.int b), some (.int c), some (.int d), some (.int a.toInt32), none]) (st := [.int b, .int a.toInt32, .ref 0]) (f := (fnR C_L_root 3)) (sim_Lroot _ M s _ hR rfl) rfl (Nat.le_of_ble_eq_true rfl) ((to_25 (25 : Int32) rfl a b c d M).elim fun n hn => ⟨n + 6, run_app n 6 _ _ _ hn (congrFun (congrFun (congrFun (congrFun (congrFun ba_25 a) b) c) d) M)⟩) (stp_call (Or.inl ⟨rfl, rfl⟩) rfl rfl rfl) rfl rfl (hnd_act rfl rfl rfl) (act_I (mc := 1) (fo_Lroot a.toInt32 b s) (fun v M' => (congrFun (congrFun (congrFun (congrFun (congrFun (congrFun bb_25 a) b) c) d) v) M')))
set_option maxRecDepth 100000 in
theorem ba_26 : (fun (a : Int64) (b : Int32) (c : Int32) (d : Int32) (M : Mem) => run C_L_act 6 (473, [some (.ref 0), some (.int (26 : Int32)), some (.long a), none, some (.int b), some (.int c), some (.int d), some (.int a.toInt32), none], [], M, 0)) = (fun (a : Int64) (b : Int32) (c : Int32) (d : Int32) (M : Mem) => some (.inl (484, [some (.ref 0), some (.int (26 : Int32)), some (.long a), none, some (.int b), some (.int c), some (.int d), some (.int a.toInt32), none], [.int b, .int a.toInt32, .ref 0], M, 0))) := by rfl
set_option maxRecDepth 100000 in
theorem bb_26 : (fun (a : Int64) (b : Int32) (c : Int32) (d : Int32) (v : Int32) (M : Mem) => run C_L_act 3 (487, [some (.ref 0), some (.int (26 : Int32)), some (.long a), none, some (.int b), some (.int c), some (.int d), some (.int a.toInt32), none], [.int v], M, 2)) = (fun (a : Int64) (b : Int32) (c : Int32) (d : Int32) (v : Int32) (M : Mem) => some (.inr (.inl (some (.long v.toInt64)), M, 2))) := by rfl
set_option maxRecDepth 100000 in
theorem act_26 {M : Mem} {s : HS} (hR : Rel M s) (a : Int64) (b c d : Int32) : Go (fnR C_L_act 9 [.ref 0, .int (26 : Int32), .long a, .int b, .int c, .int d] M) (cvA (p_transform a.toInt32 b s)) := by
  exact act_go (pc := 484) (kd := 2) (ci := 5) (na := 3) (mc := 2) (mk := 1) (lo := [some (.ref 0), some (.int (26 : Int32)), some (.long a), none, some (.int b), some (.int c), some (.int d), some (.int a.toInt32), none]) (st := [.int b, .int a.toInt32, .ref 0]) (f := fn_X7_transform) (go_transform hR a.toInt32 b) rfl (Nat.le_of_ble_eq_true rfl) ((to_26 (26 : Int32) rfl a b c d M).elim fun n hn => ⟨n + 6, run_app n 6 _ _ _ hn (congrFun (congrFun (congrFun (congrFun (congrFun ba_26 a) b) c) d) M)⟩) (stp_call (Or.inr ⟨rfl, rfl⟩) rfl rfl rfl) rfl rfl (hnd_act rfl rfl rfl) (act_I (mc := 2) (fo_transform a.toInt32 b s) (fun v M' => (congrFun (congrFun (congrFun (congrFun (congrFun (congrFun bb_26 a) b) c) d) v) M')))
set_option maxRecDepth 100000 in
theorem ba_27 : (fun (a : Int64) (b : Int32) (c : Int32) (d : Int32) (M : Mem) => run C_L_act 7 (491, [some (.ref 0), some (.int (27 : Int32)), some (.long a), none, some (.int b), some (.int c), some (.int d), some (.int a.toInt32), none], [], M, 0)) = (fun (a : Int64) (b : Int32) (c : Int32) (d : Int32) (M : Mem) => some (.inl (504, [some (.ref 0), some (.int (27 : Int32)), some (.long a), none, some (.int b), some (.int c), some (.int d), some (.int a.toInt32), none], [.int c, .int b, .int a.toInt32, .ref 0], M, 0))) := by rfl
set_option maxRecDepth 100000 in
theorem bb_27 : (fun (a : Int64) (b : Int32) (c : Int32) (d : Int32) (v : Int32) (M : Mem) => run C_L_act 3 (507, [some (.ref 0), some (.int (27 : Int32)), some (.long a), none, some (.int b), some (.int c), some (.int d), some (.int a.toInt32), none], [.int v], M, 4)) = (fun (a : Int64) (b : Int32) (c : Int32) (d : Int32) (v : Int32) (M : Mem) => some (.inr (.inl (some (.long v.toInt64)), M, 4))) := by rfl
set_option maxRecDepth 100000 in
theorem act_27 {M : Mem} {s : HS} (hR : Rel M s) (a : Int64) (b c d : Int32) : Go (fnR C_L_act 9 [.ref 0, .int (27 : Int32), .long a, .int b, .int c, .int d] M) (cvA (p_waysAnew a.toInt32 b c s)) := by
  exact act_go (pc := 504) (kd := 2) (ci := 5) (na := 4) (mc := 4) (mk := 1) (lo := [some (.ref 0), some (.int (27 : Int32)), some (.long a), none, some (.int b), some (.int c), some (.int d), some (.int a.toInt32), none]) (st := [.int c, .int b, .int a.toInt32, .ref 0]) (f := fn_X7_waysAnew) (go_waysAnew hR a.toInt32 b c) rfl (Nat.le_of_ble_eq_true rfl) ((to_27 (27 : Int32) rfl a b c d M).elim fun n hn => ⟨n + 7, run_app n 7 _ _ _ hn (congrFun (congrFun (congrFun (congrFun (congrFun ba_27 a) b) c) d) M)⟩) (stp_call (Or.inr ⟨rfl, rfl⟩) rfl rfl rfl) rfl rfl (hnd_act rfl rfl rfl) (act_I (mc := 4) (fo_waysAnew a.toInt32 b c s) (fun v M' => (congrFun (congrFun (congrFun (congrFun (congrFun (congrFun bb_27 a) b) c) d) v) M')))
set_option maxRecDepth 100000 in
theorem ba_28 : (fun (a : Int64) (b : Int32) (c : Int32) (d : Int32) (M : Mem) => run C_L_act 2 (511, [some (.ref 0), some (.int (28 : Int32)), some (.long a), none, some (.int b), some (.int c), some (.int d), some (.int a.toInt32), none], [], M, 0)) = (fun (a : Int64) (b : Int32) (c : Int32) (d : Int32) (M : Mem) => some (.inl (514, [some (.ref 0), some (.int (28 : Int32)), some (.long a), none, some (.int b), some (.int c), some (.int d), some (.int a.toInt32), none], [.int a.toInt32, .ref 0], M, 0))) := by rfl
set_option maxRecDepth 100000 in
theorem bb_28 : (fun (a : Int64) (b : Int32) (c : Int32) (d : Int32) (v : Int32) (M : Mem) => run C_L_act 2 (517, [some (.ref 0), some (.int (28 : Int32)), some (.long a), none, some (.int b), some (.int c), some (.int d), some (.int a.toInt32), none], [.int v], M, 1)) = (fun (a : Int64) (b : Int32) (c : Int32) (d : Int32) (v : Int32) (M : Mem) => some (.inr (.inl (some (.long v.toInt64)), M, 1))) := by rfl
set_option maxRecDepth 100000 in
theorem act_28 {M : Mem} {s : HS} (hR : Rel M s) (a : Int64) (b c d : Int32) : Go (fnR C_L_act 9 [.ref 0, .int (28 : Int32), .long a, .int b, .int c, .int d] M) (cvA (p_of a.toInt32 s)) := by
  exact act_go (pc := 514) (kd := 2) (ci := 5) (na := 2) (mc := 1) (mk := 1) (lo := [some (.ref 0), some (.int (28 : Int32)), some (.long a), none, some (.int b), some (.int c), some (.int d), some (.int a.toInt32), none]) (st := [.int a.toInt32, .ref 0]) (f := fn_X7_of) (go_of hR a.toInt32) rfl (Nat.le_of_ble_eq_true rfl) ((to_28 (28 : Int32) rfl a b c d M).elim fun n hn => ⟨n + 2, run_app n 2 _ _ _ hn (congrFun (congrFun (congrFun (congrFun (congrFun ba_28 a) b) c) d) M)⟩) (stp_call (Or.inr ⟨rfl, rfl⟩) rfl rfl rfl) rfl rfl (hnd_act rfl rfl rfl) (act_I (mc := 1) (fo_of a.toInt32 s) (fun v M' => (congrFun (congrFun (congrFun (congrFun (congrFun (congrFun bb_28 a) b) c) d) v) M')))
theorem sim_act : Sim (fnR C_L_act 9) q_act := by
  intro av M s x hR h
  unfold q_act at h
  split at h
  · rename_i r0 w a b c d
    cases hb : (Nat.beq r0 0 && Nat.ble w.toBitVec.toNat 28) with
    | false => rw [hb] at h; cases h
    | true =>
      rw [hb] at h
      rw [Bool.and_eq_true] at hb
      obtain rfl := Nat.eq_of_beq_eq_true hb.1
      cases h
      have hw := Nat.le_of_ble_eq_true hb.2
      have e := ii_all w
      generalize w.toBitVec.toNat = k at e hw ⊢
      subst e
      match k, hw with
      | 0, _ => exact act_0 hR a b c d
      | 1, _ => exact act_1 hR a b c d
      | 2, _ => exact act_2 hR a b c d
      | 3, _ => exact act_3 hR a b c d
      | 4, _ => exact act_4 hR a b c d
      | 5, _ => exact act_5 hR a b c d
      | 6, _ => exact act_6 hR a b c d
      | 7, _ => exact act_7 hR a b c d
      | 8, _ => exact act_8 hR a b c d
      | 9, _ => exact act_9 hR a b c d
      | 10, _ => exact act_10 hR a b c d
      | 11, _ => exact act_11 hR a b c d
      | 12, _ => exact act_12 hR a b c d
      | 13, _ => exact act_13 hR a b c d
      | 14, _ => exact act_14 hR a b c d
      | 15, _ => exact act_15 hR a b c d
      | 16, _ => exact act_16 hR a b c d
      | 17, _ => exact act_17 hR a b c d
      | 18, _ => exact act_18 hR a b c d
      | 19, _ => exact act_19 hR a b c d
      | 20, _ => exact act_20 hR a b c d
      | 21, _ => exact act_21 hR a b c d
      | 22, _ => exact act_22 hR a b c d
      | 23, _ => exact act_23 hR a b c d
      | 24, _ => exact act_24 hR a b c d
      | 25, _ => exact act_25 hR a b c d
      | 26, _ => exact act_26 hR a b c d
      | 27, _ => exact act_27 hR a b c d
      | 28, _ => exact act_28 hR a b c d
      | k + 29, hw => exact absurd hw (by omega)
  · cases h
