/-! THE LAW'S TURN: its tables, cut by its cases; words; its calls' contracts; the loop's head -/
def DLAW : Nat := 25
theorem w_code_SumsetryLaw_group__LSumsetry_II_J_I : Cond.codeWith yL_group cL_group 5 (some .int) [(0, 10, 13, 13)] ∈ TB := tb_i 274 (by decide +kernel) (by rfl)
theorem w_initialized_SumsetryLaw : Cond.initialized RL ∈ TB := tb_i 47 (by decide +kernel) (by rfl)
theorem w_methodLink_SumsetryLaw_119 : Cond.methodLink RL 119 yL_group ∈ TB := tb_i 272 (by decide +kernel) (by rfl)
theorem w_static_SumsetryLaw_group__LSumsetry_II_J_I : Cond.static yL_group ∈ TB := tb_i 273 (by decide +kernel) (by rfl)
theorem w_code_SumsetryModel_group__II_I : Cond.code yX8_group cX8_group 3 (some .int) ∈ TB := tb_i 921 (by decide +kernel) (by rfl)
theorem w_methodLink_SumsetryLaw_124 : Cond.methodLink RL 124 yX8_group ∈ TB := tb_i 918 (by decide +kernel) (by rfl)
theorem w_instanceMethod_SumsetryModel_group__II_I : Cond.instanceMethod yX8_group ∈ TB := tb_i 919 (by decide +kernel) (by rfl)
theorem w_selects_SumsetryModel_group__II_I : Cond.selects yX8_group.cls yX8_group yX8_group ∈ TB := tb_i 920 (by decide +kernel) (by rfl)
theorem w_code_SumsetryModel_thrown___I : Cond.code yX8_thrown cX8_thrown 1 (some .int) ∈ TB := tb_i 917 (by decide +kernel) (by rfl)
theorem w_methodLink_SumsetryLaw_125 : Cond.methodLink RL 125 yX8_thrown ∈ TB := tb_i 914 (by decide +kernel) (by rfl)
theorem w_instanceMethod_SumsetryModel_thrown___I : Cond.instanceMethod yX8_thrown ∈ TB := tb_i 915 (by decide +kernel) (by rfl)
theorem w_selects_SumsetryModel_thrown___I : Cond.selects yX8_thrown.cls yX8_thrown yX8_thrown ∈ TB := tb_i 916 (by decide +kernel) (by rfl)
theorem w_code_SumsetryLaw_add__LSumsetry_IIZ_J_I : Cond.codeWith yL_add cL_add 6 (some .int) [(0, 12, 15, 19)] ∈ TB := tb_i 358 (by decide +kernel) (by rfl)
theorem w_methodLink_SumsetryLaw_128 : Cond.methodLink RL 128 yL_add ∈ TB := tb_i 356 (by decide +kernel) (by rfl)
theorem w_static_SumsetryLaw_add__LSumsetry_IIZ_J_I : Cond.static yL_add ∈ TB := tb_i 357 (by decide +kernel) (by rfl)
theorem w_code_SumsetryModel_add__IIZ_I : Cond.code yX8_add cX8_add 4 (some .int) ∈ TB := tb_i 932 (by decide +kernel) (by rfl)
theorem w_methodLink_SumsetryLaw_131 : Cond.methodLink RL 131 yX8_add ∈ TB := tb_i 929 (by decide +kernel) (by rfl)
theorem w_instanceMethod_SumsetryModel_add__IIZ_I : Cond.instanceMethod yX8_add ∈ TB := tb_i 930 (by decide +kernel) (by rfl)
theorem w_selects_SumsetryModel_add__IIZ_I : Cond.selects yX8_add.cls yX8_add yX8_add ∈ TB := tb_i 931 (by decide +kernel) (by rfl)
theorem w_code_SumsetryLaw_set__LSumsetry_J_J_I : Cond.codeWith yL_set cL_set 5 (some .int) [(0, 9, 12, 13), (0, 9, 16, 25)] ∈ TB := tb_i 392 (by decide +kernel) (by rfl)
theorem w_methodLink_SumsetryLaw_134 : Cond.methodLink RL 134 yL_set ∈ TB := tb_i 390 (by decide +kernel) (by rfl)
theorem w_static_SumsetryLaw_set__LSumsetry_J_J_I : Cond.static yL_set ∈ TB := tb_i 391 (by decide +kernel) (by rfl)
theorem w_code_SumsetryModel_set__J_I : Cond.code yX8_set cX8_set 3 (some .int) ∈ TB := tb_i 947 (by decide +kernel) (by rfl)
theorem w_methodLink_SumsetryLaw_137 : Cond.methodLink RL 137 yX8_set ∈ TB := tb_i 944 (by decide +kernel) (by rfl)
theorem w_instanceMethod_SumsetryModel_set__J_I : Cond.instanceMethod yX8_set ∈ TB := tb_i 945 (by decide +kernel) (by rfl)
theorem w_selects_SumsetryModel_set__J_I : Cond.selects yX8_set.cls yX8_set yX8_set ∈ TB := tb_i 946 (by decide +kernel) (by rfl)
theorem w_code_SumsetryLaw_combine__LSumsetry_III_J_I : Cond.codeWith yL_combine cL_combine 6 (some .int) [(0, 12, 15, 19), (0, 12, 19, 13), (0, 12, 23, 25)] ∈ TB := tb_i 426 (by decide +kernel) (by rfl)
theorem w_methodLink_SumsetryLaw_138 : Cond.methodLink RL 138 yL_combine ∈ TB := tb_i 424 (by decide +kernel) (by rfl)
theorem w_static_SumsetryLaw_combine__LSumsetry_III_J_I : Cond.static yL_combine ∈ TB := tb_i 425 (by decide +kernel) (by rfl)
theorem w_code_SumsetryModel_combine__III_I : Cond.code yX8_combine cX8_combine 10 (some .int) ∈ TB := tb_i 960 (by decide +kernel) (by rfl)
theorem w_methodLink_SumsetryLaw_141 : Cond.methodLink RL 141 yX8_combine ∈ TB := tb_i 957 (by decide +kernel) (by rfl)
theorem w_instanceMethod_SumsetryModel_combine__III_I : Cond.instanceMethod yX8_combine ∈ TB := tb_i 958 (by decide +kernel) (by rfl)
theorem w_selects_SumsetryModel_combine__III_I : Cond.selects yX8_combine.cls yX8_combine yX8_combine ∈ TB := tb_i 959 (by decide +kernel) (by rfl)
theorem w_code_SumsetryLaw_move__LSumsetry_III_J_I : Cond.codeWith yL_move cL_move 6 (some .int) [(0, 12, 15, 19), (0, 12, 19, 13), (0, 12, 23, 25)] ∈ TB := tb_i 489 (by decide +kernel) (by rfl)
theorem w_methodLink_SumsetryLaw_142 : Cond.methodLink RL 142 yL_move ∈ TB := tb_i 487 (by decide +kernel) (by rfl)
theorem w_static_SumsetryLaw_move__LSumsetry_III_J_I : Cond.static yL_move ∈ TB := tb_i 488 (by decide +kernel) (by rfl)
theorem w_code_SumsetryModel_move__III_I : Cond.code yX8_move cX8_move 4 (some .int) ∈ TB := tb_i 979 (by decide +kernel) (by rfl)
theorem w_methodLink_SumsetryLaw_144 : Cond.methodLink RL 144 yX8_move ∈ TB := tb_i 976 (by decide +kernel) (by rfl)
theorem w_instanceMethod_SumsetryModel_move__III_I : Cond.instanceMethod yX8_move ∈ TB := tb_i 977 (by decide +kernel) (by rfl)
theorem w_selects_SumsetryModel_move__III_I : Cond.selects yX8_move.cls yX8_move yX8_move ∈ TB := tb_i 978 (by decide +kernel) (by rfl)
theorem w_code_SumsetryLaw_elements__LSumsetry_I_J_I : Cond.codeWith yL_elements cL_elements 4 (some .int) [(0, 8, 11, 19)] ∈ TB := tb_i 502 (by decide +kernel) (by rfl)
theorem w_methodLink_SumsetryLaw_145 : Cond.methodLink RL 145 yL_elements ∈ TB := tb_i 500 (by decide +kernel) (by rfl)
theorem w_static_SumsetryLaw_elements__LSumsetry_I_J_I : Cond.static yL_elements ∈ TB := tb_i 501 (by decide +kernel) (by rfl)
theorem w_code_SumsetryModel_elements__I_J : Cond.code yX8_elements cX8_elements 2 (some .long) ∈ TB := tb_i 983 (by decide +kernel) (by rfl)
theorem w_methodLink_SumsetryLaw_148 : Cond.methodLink RL 148 yX8_elements ∈ TB := tb_i 980 (by decide +kernel) (by rfl)
theorem w_instanceMethod_SumsetryModel_elements__I_J : Cond.instanceMethod yX8_elements ∈ TB := tb_i 981 (by decide +kernel) (by rfl)
theorem w_selects_SumsetryModel_elements__I_J : Cond.selects yX8_elements.cls yX8_elements yX8_elements ∈ TB := tb_i 982 (by decide +kernel) (by rfl)
theorem w_code_SumsetryLaw_ways__LSumsetry_III_J_I : Cond.codeWith yL_ways cL_ways 6 (some .int) [(0, 12, 15, 19)] ∈ TB := tb_i 509 (by decide +kernel) (by rfl)
theorem w_methodLink_SumsetryLaw_149 : Cond.methodLink RL 149 yL_ways ∈ TB := tb_i 507 (by decide +kernel) (by rfl)
theorem w_static_SumsetryLaw_ways__LSumsetry_III_J_I : Cond.static yL_ways ∈ TB := tb_i 508 (by decide +kernel) (by rfl)
theorem w_code_SumsetryModel_ways__III_I : Cond.code yX8_ways cX8_ways 4 (some .int) ∈ TB := tb_i 987 (by decide +kernel) (by rfl)
theorem w_methodLink_SumsetryLaw_151 : Cond.methodLink RL 151 yX8_ways ∈ TB := tb_i 984 (by decide +kernel) (by rfl)
theorem w_instanceMethod_SumsetryModel_ways__III_I : Cond.instanceMethod yX8_ways ∈ TB := tb_i 985 (by decide +kernel) (by rfl)
theorem w_selects_SumsetryModel_ways__III_I : Cond.selects yX8_ways.cls yX8_ways yX8_ways ∈ TB := tb_i 986 (by decide +kernel) (by rfl)
theorem w_code_SumsetryLaw_popular__LSumsetry_III_J_I : Cond.codeWith yL_popular cL_popular 6 (some .int) [(0, 11, 14, 19), (0, 11, 18, 13)] ∈ TB := tb_i 520 (by decide +kernel) (by rfl)
theorem w_methodLink_SumsetryLaw_152 : Cond.methodLink RL 152 yL_popular ∈ TB := tb_i 518 (by decide +kernel) (by rfl)
theorem w_static_SumsetryLaw_popular__LSumsetry_III_J_I : Cond.static yL_popular ∈ TB := tb_i 519 (by decide +kernel) (by rfl)
theorem w_code_SumsetryModel_popular__III_J : Cond.code yX8_popular cX8_popular 7 (some .long) ∈ TB := tb_i 995 (by decide +kernel) (by rfl)
theorem w_methodLink_SumsetryLaw_154 : Cond.methodLink RL 154 yX8_popular ∈ TB := tb_i 992 (by decide +kernel) (by rfl)
theorem w_instanceMethod_SumsetryModel_popular__III_J : Cond.instanceMethod yX8_popular ∈ TB := tb_i 993 (by decide +kernel) (by rfl)
theorem w_selects_SumsetryModel_popular__III_J : Cond.selects yX8_popular.cls yX8_popular yX8_popular ∈ TB := tb_i 994 (by decide +kernel) (by rfl)
theorem w_code_SumsetryLaw_energy__LSumsetry_II_J_I : Cond.codeWith yL_energy cL_energy 5 (some .int) [(0, 10, 13, 19)] ∈ TB := tb_i 529 (by decide +kernel) (by rfl)
theorem w_methodLink_SumsetryLaw_155 : Cond.methodLink RL 155 yL_energy ∈ TB := tb_i 527 (by decide +kernel) (by rfl)
theorem w_static_SumsetryLaw_energy__LSumsetry_II_J_I : Cond.static yL_energy ∈ TB := tb_i 528 (by decide +kernel) (by rfl)
theorem w_code_SumsetryModel_energy__II_I : Cond.code yX8_energy cX8_energy 6 (some .int) ∈ TB := tb_i 999 (by decide +kernel) (by rfl)
theorem w_methodLink_SumsetryLaw_157 : Cond.methodLink RL 157 yX8_energy ∈ TB := tb_i 996 (by decide +kernel) (by rfl)
theorem w_instanceMethod_SumsetryModel_energy__II_I : Cond.instanceMethod yX8_energy ∈ TB := tb_i 997 (by decide +kernel) (by rfl)
theorem w_selects_SumsetryModel_energy__II_I : Cond.selects yX8_energy.cls yX8_energy yX8_energy ∈ TB := tb_i 998 (by decide +kernel) (by rfl)
theorem w_code_SumsetryLaw_energyAnew__LSumsetry_II_J_I : Cond.codeWith yL_energyAnew cL_energyAnew 5 (some .int) [(0, 10, 13, 19)] ∈ TB := tb_i 536 (by decide +kernel) (by rfl)
theorem w_methodLink_SumsetryLaw_158 : Cond.methodLink RL 158 yL_energyAnew ∈ TB := tb_i 534 (by decide +kernel) (by rfl)
theorem w_static_SumsetryLaw_energyAnew__LSumsetry_II_J_I : Cond.static yL_energyAnew ∈ TB := tb_i 535 (by decide +kernel) (by rfl)
theorem w_code_SumsetryModel_energyAnew__II_I : Cond.code yX8_energyAnew cX8_energyAnew 5 (some .int) ∈ TB := tb_i 1007 (by decide +kernel) (by rfl)
theorem w_methodLink_SumsetryLaw_160 : Cond.methodLink RL 160 yX8_energyAnew ∈ TB := tb_i 1004 (by decide +kernel) (by rfl)
theorem w_instanceMethod_SumsetryModel_energyAnew__II_I : Cond.instanceMethod yX8_energyAnew ∈ TB := tb_i 1005 (by decide +kernel) (by rfl)
theorem w_selects_SumsetryModel_energyAnew__II_I : Cond.selects yX8_energyAnew.cls yX8_energyAnew yX8_energyAnew ∈ TB := tb_i 1006 (by decide +kernel) (by rfl)
theorem w_code_SumsetryLaw_stabilizer__LSumsetry_I_J_I : Cond.codeWith yL_stabilizer cL_stabilizer 4 (some .int) [(0, 8, 11, 19)] ∈ TB := tb_i 547 (by decide +kernel) (by rfl)
theorem w_methodLink_SumsetryLaw_161 : Cond.methodLink RL 161 yL_stabilizer ∈ TB := tb_i 545 (by decide +kernel) (by rfl)
theorem w_static_SumsetryLaw_stabilizer__LSumsetry_I_J_I : Cond.static yL_stabilizer ∈ TB := tb_i 546 (by decide +kernel) (by rfl)
theorem w_code_SumsetryModel_stabilizer__I_J : Cond.code yX8_stabilizer cX8_stabilizer 2 (some .long) ∈ TB := tb_i 1011 (by decide +kernel) (by rfl)
theorem w_methodLink_SumsetryLaw_163 : Cond.methodLink RL 163 yX8_stabilizer ∈ TB := tb_i 1008 (by decide +kernel) (by rfl)
theorem w_instanceMethod_SumsetryModel_stabilizer__I_J : Cond.instanceMethod yX8_stabilizer ∈ TB := tb_i 1009 (by decide +kernel) (by rfl)
theorem w_selects_SumsetryModel_stabilizer__I_J : Cond.selects yX8_stabilizer.cls yX8_stabilizer yX8_stabilizer ∈ TB := tb_i 1010 (by decide +kernel) (by rfl)
theorem w_code_SumsetryLaw_excess__LSumsetry_II_J_I : Cond.codeWith yL_excess cL_excess 5 (some .int) [(0, 10, 13, 19)] ∈ TB := tb_i 558 (by decide +kernel) (by rfl)
theorem w_methodLink_SumsetryLaw_164 : Cond.methodLink RL 164 yL_excess ∈ TB := tb_i 556 (by decide +kernel) (by rfl)
theorem w_static_SumsetryLaw_excess__LSumsetry_II_J_I : Cond.static yL_excess ∈ TB := tb_i 557 (by decide +kernel) (by rfl)
theorem w_code_SumsetryModel_excess__II_I : Cond.code yX8_excess cX8_excess 7 (some .int) ∈ TB := tb_i 1019 (by decide +kernel) (by rfl)
theorem w_methodLink_SumsetryLaw_166 : Cond.methodLink RL 166 yX8_excess ∈ TB := tb_i 1016 (by decide +kernel) (by rfl)
theorem w_instanceMethod_SumsetryModel_excess__II_I : Cond.instanceMethod yX8_excess ∈ TB := tb_i 1017 (by decide +kernel) (by rfl)
theorem w_selects_SumsetryModel_excess__II_I : Cond.selects yX8_excess.cls yX8_excess yX8_excess ∈ TB := tb_i 1018 (by decide +kernel) (by rfl)
theorem w_code_SumsetryLaw_slack__LSumsetry_III_J_I : Cond.codeWith yL_slack cL_slack 6 (some .int) [(0, 12, 15, 19)] ∈ TB := tb_i 566 (by decide +kernel) (by rfl)
theorem w_methodLink_SumsetryLaw_167 : Cond.methodLink RL 167 yL_slack ∈ TB := tb_i 564 (by decide +kernel) (by rfl)
theorem w_static_SumsetryLaw_slack__LSumsetry_III_J_I : Cond.static yL_slack ∈ TB := tb_i 565 (by decide +kernel) (by rfl)
theorem w_code_SumsetryModel_slack__III_I : Cond.code yX8_slack cX8_slack 4 (some .int) ∈ TB := tb_i 1026 (by decide +kernel) (by rfl)
theorem w_methodLink_SumsetryLaw_169 : Cond.methodLink RL 169 yX8_slack ∈ TB := tb_i 1023 (by decide +kernel) (by rfl)
theorem w_instanceMethod_SumsetryModel_slack__III_I : Cond.instanceMethod yX8_slack ∈ TB := tb_i 1024 (by decide +kernel) (by rfl)
theorem w_selects_SumsetryModel_slack__III_I : Cond.selects yX8_slack.cls yX8_slack yX8_slack ∈ TB := tb_i 1025 (by decide +kernel) (by rfl)
theorem w_code_SumsetryLaw_cover__LSumsetry_II_J_I : Cond.codeWith yL_cover cL_cover 5 (some .int) [(0, 9, 12, 19)] ∈ TB := tb_i 573 (by decide +kernel) (by rfl)
theorem w_methodLink_SumsetryLaw_170 : Cond.methodLink RL 170 yL_cover ∈ TB := tb_i 571 (by decide +kernel) (by rfl)
theorem w_static_SumsetryLaw_cover__LSumsetry_II_J_I : Cond.static yL_cover ∈ TB := tb_i 572 (by decide +kernel) (by rfl)
theorem w_code_SumsetryModel_cover__II_J : Cond.code yX8_cover cX8_cover 10 (some .long) ∈ TB := tb_i 1034 (by decide +kernel) (by rfl)
theorem w_methodLink_SumsetryLaw_172 : Cond.methodLink RL 172 yX8_cover ∈ TB := tb_i 1031 (by decide +kernel) (by rfl)
theorem w_instanceMethod_SumsetryModel_cover__II_J : Cond.instanceMethod yX8_cover ∈ TB := tb_i 1032 (by decide +kernel) (by rfl)
theorem w_selects_SumsetryModel_cover__II_J : Cond.selects yX8_cover.cls yX8_cover yX8_cover ∈ TB := tb_i 1033 (by decide +kernel) (by rfl)
theorem w_code_SumsetryLaw_sums__LSumsetry_II_J_I : Cond.codeWith yL_sums cL_sums 5 (some .int) [(0, 9, 12, 19), (0, 9, 16, 13)] ∈ TB := tb_i 581 (by decide +kernel) (by rfl)
theorem w_methodLink_SumsetryLaw_173 : Cond.methodLink RL 173 yL_sums ∈ TB := tb_i 579 (by decide +kernel) (by rfl)
theorem w_static_SumsetryLaw_sums__LSumsetry_II_J_I : Cond.static yL_sums ∈ TB := tb_i 580 (by decide +kernel) (by rfl)
theorem w_code_SumsetryModel_sums__II_J : Cond.code yX8_sums cX8_sums 3 (some .long) ∈ TB := tb_i 1038 (by decide +kernel) (by rfl)
theorem w_methodLink_SumsetryLaw_175 : Cond.methodLink RL 175 yX8_sums ∈ TB := tb_i 1035 (by decide +kernel) (by rfl)
theorem w_instanceMethod_SumsetryModel_sums__II_J : Cond.instanceMethod yX8_sums ∈ TB := tb_i 1036 (by decide +kernel) (by rfl)
theorem w_selects_SumsetryModel_sums__II_J : Cond.selects yX8_sums.cls yX8_sums yX8_sums ∈ TB := tb_i 1037 (by decide +kernel) (by rfl)
theorem w_code_SumsetryLaw_order__LSumsetry_I_J_I : Cond.codeWith yL_order cL_order 4 (some .int) [(0, 9, 12, 19)] ∈ TB := tb_i 589 (by decide +kernel) (by rfl)
theorem w_methodLink_SumsetryLaw_176 : Cond.methodLink RL 176 yL_order ∈ TB := tb_i 587 (by decide +kernel) (by rfl)
theorem w_static_SumsetryLaw_order__LSumsetry_I_J_I : Cond.static yL_order ∈ TB := tb_i 588 (by decide +kernel) (by rfl)
theorem w_code_SumsetryModel_order__I_I : Cond.code yX8_order cX8_order 2 (some .int) ∈ TB := tb_i 1046 (by decide +kernel) (by rfl)
theorem w_methodLink_SumsetryLaw_178 : Cond.methodLink RL 178 yX8_order ∈ TB := tb_i 1043 (by decide +kernel) (by rfl)
theorem w_instanceMethod_SumsetryModel_order__I_I : Cond.instanceMethod yX8_order ∈ TB := tb_i 1044 (by decide +kernel) (by rfl)
theorem w_selects_SumsetryModel_order__I_I : Cond.selects yX8_order.cls yX8_order yX8_order ∈ TB := tb_i 1045 (by decide +kernel) (by rfl)
theorem w_code_SumsetryLaw_essential__LSumsetry_I_J_I : Cond.codeWith yL_essential cL_essential 4 (some .int) [(0, 8, 11, 19)] ∈ TB := tb_i 600 (by decide +kernel) (by rfl)
theorem w_methodLink_SumsetryLaw_179 : Cond.methodLink RL 179 yL_essential ∈ TB := tb_i 598 (by decide +kernel) (by rfl)
theorem w_static_SumsetryLaw_essential__LSumsetry_I_J_I : Cond.static yL_essential ∈ TB := tb_i 599 (by decide +kernel) (by rfl)
theorem w_code_SumsetryModel_essential__I_J : Cond.code yX8_essential cX8_essential 6 (some .long) ∈ TB := tb_i 1054 (by decide +kernel) (by rfl)
theorem w_methodLink_SumsetryLaw_181 : Cond.methodLink RL 181 yX8_essential ∈ TB := tb_i 1051 (by decide +kernel) (by rfl)
theorem w_instanceMethod_SumsetryModel_essential__I_J : Cond.instanceMethod yX8_essential ∈ TB := tb_i 1052 (by decide +kernel) (by rfl)
theorem w_selects_SumsetryModel_essential__I_J : Cond.selects yX8_essential.cls yX8_essential yX8_essential ∈ TB := tb_i 1053 (by decide +kernel) (by rfl)
theorem w_code_SumsetryLaw_image__LSumsetry_IIII_J_I : Cond.codeWith yL_image cL_image 7 (some .int) [(0, 14, 17, 19), (0, 14, 21, 13), (0, 14, 25, 25)] ∈ TB := tb_i 607 (by decide +kernel) (by rfl)
theorem w_methodLink_SumsetryLaw_182 : Cond.methodLink RL 182 yL_image ∈ TB := tb_i 605 (by decide +kernel) (by rfl)
theorem w_static_SumsetryLaw_image__LSumsetry_IIII_J_I : Cond.static yL_image ∈ TB := tb_i 606 (by decide +kernel) (by rfl)
theorem w_code_SumsetryModel_image__IIII_I : Cond.code yX8_image cX8_image 7 (some .int) ∈ TB := tb_i 1058 (by decide +kernel) (by rfl)
theorem w_methodLink_SumsetryLaw_185 : Cond.methodLink RL 185 yX8_image ∈ TB := tb_i 1055 (by decide +kernel) (by rfl)
theorem w_instanceMethod_SumsetryModel_image__IIII_I : Cond.instanceMethod yX8_image ∈ TB := tb_i 1056 (by decide +kernel) (by rfl)
theorem w_selects_SumsetryModel_image__IIII_I : Cond.selects yX8_image.cls yX8_image yX8_image ∈ TB := tb_i 1057 (by decide +kernel) (by rfl)
theorem w_code_SumsetryLaw_maps__LSumsetry_III_J_I : Cond.codeWith yL_maps cL_maps 6 (some .int) [(0, 12, 15, 19), (0, 12, 19, 13), (0, 12, 23, 25)] ∈ TB := tb_i 664 (by decide +kernel) (by rfl)
theorem w_methodLink_SumsetryLaw_186 : Cond.methodLink RL 186 yL_maps ∈ TB := tb_i 662 (by decide +kernel) (by rfl)
theorem w_static_SumsetryLaw_maps__LSumsetry_III_J_I : Cond.static yL_maps ∈ TB := tb_i 663 (by decide +kernel) (by rfl)
theorem w_code_SumsetryModel_maps__III_I : Cond.code yX8_maps cX8_maps 4 (some .int) ∈ TB := tb_i 1086 (by decide +kernel) (by rfl)
theorem w_methodLink_SumsetryLaw_188 : Cond.methodLink RL 188 yX8_maps ∈ TB := tb_i 1083 (by decide +kernel) (by rfl)
theorem w_instanceMethod_SumsetryModel_maps__III_I : Cond.instanceMethod yX8_maps ∈ TB := tb_i 1084 (by decide +kernel) (by rfl)
theorem w_selects_SumsetryModel_maps__III_I : Cond.selects yX8_maps.cls yX8_maps yX8_maps ∈ TB := tb_i 1085 (by decide +kernel) (by rfl)
theorem w_code_SumsetryLaw_keeps__LSumsetry_II_J_I : Cond.codeWith yL_keeps cL_keeps 5 (some .int) [(0, 17, 20, 19)] ∈ TB := tb_i 671 (by decide +kernel) (by rfl)
theorem w_methodLink_SumsetryLaw_189 : Cond.methodLink RL 189 yL_keeps ∈ TB := tb_i 669 (by decide +kernel) (by rfl)
theorem w_static_SumsetryLaw_keeps__LSumsetry_II_J_I : Cond.static yL_keeps ∈ TB := tb_i 670 (by decide +kernel) (by rfl)
theorem w_code_SumsetryModel_keeps__II_Z : Cond.code yX8_keeps cX8_keeps 3 (some .boolean) ∈ TB := tb_i 1090 (by decide +kernel) (by rfl)
theorem w_methodLink_SumsetryLaw_191 : Cond.methodLink RL 191 yX8_keeps ∈ TB := tb_i 1087 (by decide +kernel) (by rfl)
theorem w_instanceMethod_SumsetryModel_keeps__II_Z : Cond.instanceMethod yX8_keeps ∈ TB := tb_i 1088 (by decide +kernel) (by rfl)
theorem w_selects_SumsetryModel_keeps__II_Z : Cond.selects yX8_keeps.cls yX8_keeps yX8_keeps ∈ TB := tb_i 1089 (by decide +kernel) (by rfl)
theorem w_code_SumsetryLaw_greatest__LSumsetry_II_J_I : Cond.codeWith yL_greatest cL_greatest 5 (some .int) [(0, 9, 12, 19), (0, 9, 16, 25)] ∈ TB := tb_i 704 (by decide +kernel) (by rfl)
theorem w_methodLink_SumsetryLaw_192 : Cond.methodLink RL 192 yL_greatest ∈ TB := tb_i 702 (by decide +kernel) (by rfl)
theorem w_static_SumsetryLaw_greatest__LSumsetry_II_J_I : Cond.static yL_greatest ∈ TB := tb_i 703 (by decide +kernel) (by rfl)
theorem w_code_SumsetryModel_greatest__II_J : Cond.code yX8_greatest cX8_greatest 3 (some .long) ∈ TB := tb_i 1117 (by decide +kernel) (by rfl)
theorem w_methodLink_SumsetryLaw_194 : Cond.methodLink RL 194 yX8_greatest ∈ TB := tb_i 1114 (by decide +kernel) (by rfl)
theorem w_instanceMethod_SumsetryModel_greatest__II_J : Cond.instanceMethod yX8_greatest ∈ TB := tb_i 1115 (by decide +kernel) (by rfl)
theorem w_selects_SumsetryModel_greatest__II_J : Cond.selects yX8_greatest.cls yX8_greatest yX8_greatest ∈ TB := tb_i 1116 (by decide +kernel) (by rfl)
theorem w_code_SumsetryLaw_greatestAnew__LSumsetry_II_J_I : Cond.codeWith yL_greatestAnew cL_greatestAnew 5 (some .int) [(0, 9, 12, 19), (0, 9, 16, 25)] ∈ TB := tb_i 735 (by decide +kernel) (by rfl)
theorem w_methodLink_SumsetryLaw_195 : Cond.methodLink RL 195 yL_greatestAnew ∈ TB := tb_i 733 (by decide +kernel) (by rfl)
theorem w_static_SumsetryLaw_greatestAnew__LSumsetry_II_J_I : Cond.static yL_greatestAnew ∈ TB := tb_i 734 (by decide +kernel) (by rfl)
theorem w_code_SumsetryModel_greatestAnew__II_J : Cond.code yX8_greatestAnew cX8_greatestAnew 3 (some .long) ∈ TB := tb_i 1125 (by decide +kernel) (by rfl)
theorem w_methodLink_SumsetryLaw_197 : Cond.methodLink RL 197 yX8_greatestAnew ∈ TB := tb_i 1122 (by decide +kernel) (by rfl)
theorem w_instanceMethod_SumsetryModel_greatestAnew__II_J : Cond.instanceMethod yX8_greatestAnew ∈ TB := tb_i 1123 (by decide +kernel) (by rfl)
theorem w_selects_SumsetryModel_greatestAnew__II_J : Cond.selects yX8_greatestAnew.cls yX8_greatestAnew yX8_greatestAnew ∈ TB := tb_i 1124 (by decide +kernel) (by rfl)
theorem w_code_SumsetryLaw_wins__LSumsetry_IJ_J_I : Cond.codeWith yL_wins cL_wins 6 (some .int) [(0, 10, 13, 19), (0, 10, 17, 13), (0, 10, 21, 25)] ∈ TB := tb_i 746 (by decide +kernel) (by rfl)
theorem w_methodLink_SumsetryLaw_198 : Cond.methodLink RL 198 yL_wins ∈ TB := tb_i 744 (by decide +kernel) (by rfl)
theorem w_static_SumsetryLaw_wins__LSumsetry_IJ_J_I : Cond.static yL_wins ∈ TB := tb_i 745 (by decide +kernel) (by rfl)
theorem w_code_SumsetryModel_wins__IJ_J : Cond.code yX8_wins cX8_wins 8 (some .long) ∈ TB := tb_i 1129 (by decide +kernel) (by rfl)
theorem w_methodLink_SumsetryLaw_201 : Cond.methodLink RL 201 yX8_wins ∈ TB := tb_i 1126 (by decide +kernel) (by rfl)
theorem w_instanceMethod_SumsetryModel_wins__IJ_J : Cond.instanceMethod yX8_wins ∈ TB := tb_i 1127 (by decide +kernel) (by rfl)
theorem w_selects_SumsetryModel_wins__IJ_J : Cond.selects yX8_wins.cls yX8_wins yX8_wins ∈ TB := tb_i 1128 (by decide +kernel) (by rfl)
theorem w_code_SumsetryLaw_put__LSumsetry_I_J_I : Cond.codeWith yL_put cL_put 4 (some .int) [(0, 9, 12, 19), (0, 9, 15, 25)] ∈ TB := tb_i 772 (by decide +kernel) (by rfl)
theorem w_methodLink_SumsetryLaw_202 : Cond.methodLink RL 202 yL_put ∈ TB := tb_i 770 (by decide +kernel) (by rfl)
theorem w_static_SumsetryLaw_put__LSumsetry_I_J_I : Cond.static yL_put ∈ TB := tb_i 771 (by decide +kernel) (by rfl)
theorem w_code_SumsetryModel_put__I_I : Cond.code yX8_put cX8_put 2 (some .int) ∈ TB := tb_i 1133 (by decide +kernel) (by rfl)
theorem w_methodLink_SumsetryLaw_204 : Cond.methodLink RL 204 yX8_put ∈ TB := tb_i 1130 (by decide +kernel) (by rfl)
theorem w_instanceMethod_SumsetryModel_put__I_I : Cond.instanceMethod yX8_put ∈ TB := tb_i 1131 (by decide +kernel) (by rfl)
theorem w_selects_SumsetryModel_put__I_I : Cond.selects yX8_put.cls yX8_put yX8_put ∈ TB := tb_i 1132 (by decide +kernel) (by rfl)
theorem w_code_Sumsetry_wipe___I : Cond.code yX7_wipe cX7_wipe 2 (some .int) ∈ TB := tb_i 238 (by decide +kernel) (by rfl)
theorem w_methodLink_SumsetryLaw_205 : Cond.methodLink RL 205 yX7_wipe ∈ TB := tb_i 235 (by decide +kernel) (by rfl)
theorem w_instanceMethod_Sumsetry_wipe___I : Cond.instanceMethod yX7_wipe ∈ TB := tb_i 236 (by decide +kernel) (by rfl)
theorem w_selects_Sumsetry_wipe___I : Cond.selects yX7_wipe.cls yX7_wipe yX7_wipe ∈ TB := tb_i 237 (by decide +kernel) (by rfl)
theorem w_code_SumsetryModel_wipe___I : Cond.code yX8_wipe cX8_wipe 2 (some .int) ∈ TB := tb_i 1137 (by decide +kernel) (by rfl)
theorem w_methodLink_SumsetryLaw_208 : Cond.methodLink RL 208 yX8_wipe ∈ TB := tb_i 1134 (by decide +kernel) (by rfl)
theorem w_instanceMethod_SumsetryModel_wipe___I : Cond.instanceMethod yX8_wipe ∈ TB := tb_i 1135 (by decide +kernel) (by rfl)
theorem w_selects_SumsetryModel_wipe___I : Cond.selects yX8_wipe.cls yX8_wipe yX8_wipe ∈ TB := tb_i 1136 (by decide +kernel) (by rfl)
theorem w_code_Sumsetry_zero___I : Cond.code yX7_zero cX7_zero 1 (some .int) ∈ TB := tb_i 246 (by decide +kernel) (by rfl)
theorem w_methodLink_SumsetryLaw_209 : Cond.methodLink RL 209 yX7_zero ∈ TB := tb_i 243 (by decide +kernel) (by rfl)
theorem w_instanceMethod_Sumsetry_zero___I : Cond.instanceMethod yX7_zero ∈ TB := tb_i 244 (by decide +kernel) (by rfl)
theorem w_selects_Sumsetry_zero___I : Cond.selects yX7_zero.cls yX7_zero yX7_zero ∈ TB := tb_i 245 (by decide +kernel) (by rfl)
theorem w_code_SumsetryModel_zero___I : Cond.code yX8_zero cX8_zero 5 (some .int) ∈ TB := tb_i 1141 (by decide +kernel) (by rfl)
theorem w_methodLink_SumsetryLaw_212 : Cond.methodLink RL 212 yX8_zero ∈ TB := tb_i 1138 (by decide +kernel) (by rfl)
theorem w_instanceMethod_SumsetryModel_zero___I : Cond.instanceMethod yX8_zero ∈ TB := tb_i 1139 (by decide +kernel) (by rfl)
theorem w_selects_SumsetryModel_zero___I : Cond.selects yX8_zero.cls yX8_zero yX8_zero ∈ TB := tb_i 1140 (by decide +kernel) (by rfl)
theorem w_code_SumsetryLaw_constant__LSumsetry__J_I : Cond.codeWith yL_constant cL_constant 3 (some .int) [(0, 8, 11, 25)] ∈ TB := tb_i 784 (by decide +kernel) (by rfl)
theorem w_methodLink_SumsetryLaw_213 : Cond.methodLink RL 213 yL_constant ∈ TB := tb_i 782 (by decide +kernel) (by rfl)
theorem w_static_SumsetryLaw_constant__LSumsetry__J_I : Cond.static yL_constant ∈ TB := tb_i 783 (by decide +kernel) (by rfl)
theorem w_code_SumsetryModel_constant___I : Cond.code yX8_constant cX8_constant 7 (some .int) ∈ TB := tb_i 1145 (by decide +kernel) (by rfl)
theorem w_methodLink_SumsetryLaw_216 : Cond.methodLink RL 216 yX8_constant ∈ TB := tb_i 1142 (by decide +kernel) (by rfl)
theorem w_instanceMethod_SumsetryModel_constant___I : Cond.instanceMethod yX8_constant ∈ TB := tb_i 1143 (by decide +kernel) (by rfl)
theorem w_selects_SumsetryModel_constant___I : Cond.selects yX8_constant.cls yX8_constant yX8_constant ∈ TB := tb_i 1144 (by decide +kernel) (by rfl)
theorem w_code_SumsetryLaw_root__LSumsetry_II_I : Cond.codeWith yL_root cL_root 4 (some .int) [(0, 6, 9, 13), (0, 6, 12, 25)] ∈ TB := tb_i 795 (by decide +kernel) (by rfl)
theorem w_methodLink_SumsetryLaw_217 : Cond.methodLink RL 217 yL_root ∈ TB := tb_i 793 (by decide +kernel) (by rfl)
theorem w_static_SumsetryLaw_root__LSumsetry_II_I : Cond.static yL_root ∈ TB := tb_i 794 (by decide +kernel) (by rfl)
theorem w_code_SumsetryModel_root__II_V : Cond.code yX8_root cX8_root 4 none ∈ TB := tb_i 1149 (by decide +kernel) (by rfl)
theorem w_methodLink_SumsetryLaw_220 : Cond.methodLink RL 220 yX8_root ∈ TB := tb_i 1146 (by decide +kernel) (by rfl)
theorem w_instanceMethod_SumsetryModel_root__II_V : Cond.instanceMethod yX8_root ∈ TB := tb_i 1147 (by decide +kernel) (by rfl)
theorem w_selects_SumsetryModel_root__II_V : Cond.selects yX8_root.cls yX8_root yX8_root ∈ TB := tb_i 1148 (by decide +kernel) (by rfl)
theorem w_code_SumsetryLaw_transform__LSumsetry_II_J_I : Cond.codeWith yL_transform cL_transform 5 (some .int) [(0, 10, 13, 19), (0, 10, 17, 13), (0, 10, 21, 25)] ∈ TB := tb_i 816 (by decide +kernel) (by rfl)
theorem w_methodLink_SumsetryLaw_221 : Cond.methodLink RL 221 yL_transform ∈ TB := tb_i 814 (by decide +kernel) (by rfl)
theorem w_static_SumsetryLaw_transform__LSumsetry_II_J_I : Cond.static yL_transform ∈ TB := tb_i 815 (by decide +kernel) (by rfl)
theorem w_code_SumsetryModel_transform__II_I : Cond.code yX8_transform cX8_transform 3 (some .int) ∈ TB := tb_i 1159 (by decide +kernel) (by rfl)
theorem w_methodLink_SumsetryLaw_223 : Cond.methodLink RL 223 yX8_transform ∈ TB := tb_i 1156 (by decide +kernel) (by rfl)
theorem w_instanceMethod_SumsetryModel_transform__II_I : Cond.instanceMethod yX8_transform ∈ TB := tb_i 1157 (by decide +kernel) (by rfl)
theorem w_selects_SumsetryModel_transform__II_I : Cond.selects yX8_transform.cls yX8_transform yX8_transform ∈ TB := tb_i 1158 (by decide +kernel) (by rfl)
theorem w_code_SumsetryLaw_waysAnew__LSumsetry_III_J_I : Cond.codeWith yL_waysAnew cL_waysAnew 6 (some .int) [(0, 12, 15, 19), (0, 12, 19, 25)] ∈ TB := tb_i 839 (by decide +kernel) (by rfl)
theorem w_methodLink_SumsetryLaw_224 : Cond.methodLink RL 224 yL_waysAnew ∈ TB := tb_i 837 (by decide +kernel) (by rfl)
theorem w_static_SumsetryLaw_waysAnew__LSumsetry_III_J_I : Cond.static yL_waysAnew ∈ TB := tb_i 838 (by decide +kernel) (by rfl)
theorem w_code_SumsetryModel_waysAnew__III_I : Cond.code yX8_waysAnew cX8_waysAnew 9 (some .int) ∈ TB := tb_i 1171 (by decide +kernel) (by rfl)
theorem w_methodLink_SumsetryLaw_226 : Cond.methodLink RL 226 yX8_waysAnew ∈ TB := tb_i 1168 (by decide +kernel) (by rfl)
theorem w_instanceMethod_SumsetryModel_waysAnew__III_I : Cond.instanceMethod yX8_waysAnew ∈ TB := tb_i 1169 (by decide +kernel) (by rfl)
theorem w_selects_SumsetryModel_waysAnew__III_I : Cond.selects yX8_waysAnew.cls yX8_waysAnew yX8_waysAnew ∈ TB := tb_i 1170 (by decide +kernel) (by rfl)
theorem w_code_SumsetryLaw_of__LSumsetry_I_J_I : Cond.codeWith yL_of cL_of 4 (some .int) [(0, 9, 12, 13)] ∈ TB := tb_i 852 (by decide +kernel) (by rfl)
theorem w_methodLink_SumsetryLaw_227 : Cond.methodLink RL 227 yL_of ∈ TB := tb_i 850 (by decide +kernel) (by rfl)
theorem w_static_SumsetryLaw_of__LSumsetry_I_J_I : Cond.static yL_of ∈ TB := tb_i 851 (by decide +kernel) (by rfl)
theorem w_code_SumsetryModel_of__I_I : Cond.code yX8_of cX8_of 2 (some .int) ∈ TB := tb_i 1175 (by decide +kernel) (by rfl)
theorem w_methodLink_SumsetryLaw_229 : Cond.methodLink RL 229 yX8_of ∈ TB := tb_i 1172 (by decide +kernel) (by rfl)
theorem w_instanceMethod_SumsetryModel_of__I_I : Cond.instanceMethod yX8_of ∈ TB := tb_i 1173 (by decide +kernel) (by rfl)
theorem w_selects_SumsetryModel_of__I_I : Cond.selects yX8_of.cls yX8_of yX8_of ∈ TB := tb_i 1174 (by decide +kernel) (by rfl)
theorem cl_119 : CallOK RL csF DLAW (119, 0, 0, 4, 1, fn_L_group) :=
  Or.inr ⟨yL_group, cL_group, 5, (some .int), (some [(0, 10, 13, 13)]), 7, ok_L_group, by decide, by decide, w_code_SumsetryLaw_group__LSumsetry_II_J_I, w_initialized_SumsetryLaw, ⟨by decide, by decide⟩, Or.inl ⟨rfl, show (parseMethodDescriptor yL_group.desc).map (fun d => d.parameters.length) = some 4 from by decide +kernel, w_methodLink_SumsetryLaw_119, w_static_SumsetryLaw_group__LSumsetry_II_J_I⟩⟩
theorem cl_124 : CallOK RL csF DLAW (124, 2, 6, 3, 0, fn_X8_group) :=
  Or.inr ⟨yX8_group, cX8_group, 3, (some .int), none, 2, ok_X8_group, by decide, by decide, w_code_SumsetryModel_group__II_I, w_initialized_SumsetryModel, ⟨by decide, by decide⟩, Or.inr (Or.inr ⟨rfl, rfl, show (parseMethodDescriptor yX8_group.desc).map (fun d => d.parameters.length + 1) = some 3 from by decide +kernel, w_methodLink_SumsetryLaw_124, w_instanceMethod_SumsetryModel_group__II_I, w_selects_SumsetryModel_group__II_I, ⟨_, rfl, rfl⟩⟩)⟩
theorem cl_125 : CallOK RL csF DLAW (125, 2, 6, 1, 0, fn_X8_thrown) :=
  Or.inr ⟨yX8_thrown, cX8_thrown, 1, (some .int), none, 1, ok_X8_thrown, by decide, by decide, w_code_SumsetryModel_thrown___I, w_initialized_SumsetryModel, ⟨by decide, by decide⟩, Or.inr (Or.inr ⟨rfl, rfl, show (parseMethodDescriptor yX8_thrown.desc).map (fun d => d.parameters.length + 1) = some 1 from by decide +kernel, w_methodLink_SumsetryLaw_125, w_instanceMethod_SumsetryModel_thrown___I, w_selects_SumsetryModel_thrown___I, ⟨_, rfl, rfl⟩⟩)⟩
theorem cl_128 : CallOK RL csF DLAW (128, 0, 0, 5, 2, fn_L_add) :=
  Or.inr ⟨yL_add, cL_add, 6, (some .int), (some [(0, 12, 15, 19)]), 8, ok_L_add, by decide, by decide, w_code_SumsetryLaw_add__LSumsetry_IIZ_J_I, w_initialized_SumsetryLaw, ⟨by decide, by decide⟩, Or.inl ⟨rfl, show (parseMethodDescriptor yL_add.desc).map (fun d => d.parameters.length) = some 5 from by decide +kernel, w_methodLink_SumsetryLaw_128, w_static_SumsetryLaw_add__LSumsetry_IIZ_J_I⟩⟩
theorem cl_131 : CallOK RL csF DLAW (131, 2, 6, 4, 0, fn_X8_add) :=
  Or.inr ⟨yX8_add, cX8_add, 4, (some .int), none, 3, ok_X8_add, by decide, by decide, w_code_SumsetryModel_add__IIZ_I, w_initialized_SumsetryModel, ⟨by decide, by decide⟩, Or.inr (Or.inr ⟨rfl, rfl, show (parseMethodDescriptor yX8_add.desc).map (fun d => d.parameters.length + 1) = some 4 from by decide +kernel, w_methodLink_SumsetryLaw_131, w_instanceMethod_SumsetryModel_add__IIZ_I, w_selects_SumsetryModel_add__IIZ_I, ⟨_, rfl, rfl⟩⟩)⟩
theorem cl_134 : CallOK RL csF DLAW (134, 0, 0, 3, 1, fn_L_set) :=
  Or.inr ⟨yL_set, cL_set, 5, (some .int), (some [(0, 9, 12, 13), (0, 9, 16, 25)]), 8, ok_L_set, by decide, by decide, w_code_SumsetryLaw_set__LSumsetry_J_J_I, w_initialized_SumsetryLaw, ⟨by decide, by decide⟩, Or.inl ⟨rfl, show (parseMethodDescriptor yL_set.desc).map (fun d => d.parameters.length) = some 3 from by decide +kernel, w_methodLink_SumsetryLaw_134, w_static_SumsetryLaw_set__LSumsetry_J_J_I⟩⟩
theorem cl_137 : CallOK RL csF DLAW (137, 2, 6, 2, 0, fn_X8_set) :=
  Or.inr ⟨yX8_set, cX8_set, 3, (some .int), none, 3, ok_X8_set, by decide, by decide, w_code_SumsetryModel_set__J_I, w_initialized_SumsetryModel, ⟨by decide, by decide⟩, Or.inr (Or.inr ⟨rfl, rfl, show (parseMethodDescriptor yX8_set.desc).map (fun d => d.parameters.length + 1) = some 2 from by decide +kernel, w_methodLink_SumsetryLaw_137, w_instanceMethod_SumsetryModel_set__J_I, w_selects_SumsetryModel_set__J_I, ⟨_, rfl, rfl⟩⟩)⟩
theorem cl_138 : CallOK RL csF DLAW (138, 0, 0, 5, 3, fn_L_combine) :=
  Or.inr ⟨yL_combine, cL_combine, 6, (some .int), (some [(0, 12, 15, 19), (0, 12, 19, 13), (0, 12, 23, 25)]), 8, ok_L_combine, by decide, by decide, w_code_SumsetryLaw_combine__LSumsetry_III_J_I, w_initialized_SumsetryLaw, ⟨by decide, by decide⟩, Or.inl ⟨rfl, show (parseMethodDescriptor yL_combine.desc).map (fun d => d.parameters.length) = some 5 from by decide +kernel, w_methodLink_SumsetryLaw_138, w_static_SumsetryLaw_combine__LSumsetry_III_J_I⟩⟩
theorem cl_141 : CallOK RL csF DLAW (141, 2, 6, 4, 0, fn_X8_combine) :=
  Or.inr ⟨yX8_combine, cX8_combine, 10, (some .int), none, 5, ok_X8_combine, by decide, by decide, w_code_SumsetryModel_combine__III_I, w_initialized_SumsetryModel, ⟨by decide, by decide⟩, Or.inr (Or.inr ⟨rfl, rfl, show (parseMethodDescriptor yX8_combine.desc).map (fun d => d.parameters.length + 1) = some 4 from by decide +kernel, w_methodLink_SumsetryLaw_141, w_instanceMethod_SumsetryModel_combine__III_I, w_selects_SumsetryModel_combine__III_I, ⟨_, rfl, rfl⟩⟩)⟩
theorem cl_142 : CallOK RL csF DLAW (142, 0, 0, 5, 3, fn_L_move) :=
  Or.inr ⟨yL_move, cL_move, 6, (some .int), (some [(0, 12, 15, 19), (0, 12, 19, 13), (0, 12, 23, 25)]), 8, ok_L_move, by decide, by decide, w_code_SumsetryLaw_move__LSumsetry_III_J_I, w_initialized_SumsetryLaw, ⟨by decide, by decide⟩, Or.inl ⟨rfl, show (parseMethodDescriptor yL_move.desc).map (fun d => d.parameters.length) = some 5 from by decide +kernel, w_methodLink_SumsetryLaw_142, w_static_SumsetryLaw_move__LSumsetry_III_J_I⟩⟩
theorem cl_144 : CallOK RL csF DLAW (144, 2, 6, 4, 0, fn_X8_move) :=
  Or.inr ⟨yX8_move, cX8_move, 4, (some .int), none, 4, ok_X8_move, by decide, by decide, w_code_SumsetryModel_move__III_I, w_initialized_SumsetryModel, ⟨by decide, by decide⟩, Or.inr (Or.inr ⟨rfl, rfl, show (parseMethodDescriptor yX8_move.desc).map (fun d => d.parameters.length + 1) = some 4 from by decide +kernel, w_methodLink_SumsetryLaw_144, w_instanceMethod_SumsetryModel_move__III_I, w_selects_SumsetryModel_move__III_I, ⟨_, rfl, rfl⟩⟩)⟩
theorem cl_145 : CallOK RL csF DLAW (145, 0, 0, 3, 1, fn_L_elements) :=
  Or.inr ⟨yL_elements, cL_elements, 4, (some .int), (some [(0, 8, 11, 19)]), 8, ok_L_elements, by decide, by decide, w_code_SumsetryLaw_elements__LSumsetry_I_J_I, w_initialized_SumsetryLaw, ⟨by decide, by decide⟩, Or.inl ⟨rfl, show (parseMethodDescriptor yL_elements.desc).map (fun d => d.parameters.length) = some 3 from by decide +kernel, w_methodLink_SumsetryLaw_145, w_static_SumsetryLaw_elements__LSumsetry_I_J_I⟩⟩
theorem cl_148 : CallOK RL csF DLAW (148, 2, 6, 2, 0, fn_X8_elements) :=
  Or.inr ⟨yX8_elements, cX8_elements, 2, (some .long), none, 3, ok_X8_elements, by decide, by decide, w_code_SumsetryModel_elements__I_J, w_initialized_SumsetryModel, ⟨by decide, by decide⟩, Or.inr (Or.inr ⟨rfl, rfl, show (parseMethodDescriptor yX8_elements.desc).map (fun d => d.parameters.length + 1) = some 2 from by decide +kernel, w_methodLink_SumsetryLaw_148, w_instanceMethod_SumsetryModel_elements__I_J, w_selects_SumsetryModel_elements__I_J, ⟨_, rfl, rfl⟩⟩)⟩
theorem cl_149 : CallOK RL csF DLAW (149, 0, 0, 5, 3, fn_L_ways) :=
  Or.inr ⟨yL_ways, cL_ways, 6, (some .int), (some [(0, 12, 15, 19)]), 8, ok_L_ways, by decide, by decide, w_code_SumsetryLaw_ways__LSumsetry_III_J_I, w_initialized_SumsetryLaw, ⟨by decide, by decide⟩, Or.inl ⟨rfl, show (parseMethodDescriptor yL_ways.desc).map (fun d => d.parameters.length) = some 5 from by decide +kernel, w_methodLink_SumsetryLaw_149, w_static_SumsetryLaw_ways__LSumsetry_III_J_I⟩⟩
theorem cl_151 : CallOK RL csF DLAW (151, 2, 6, 4, 0, fn_X8_ways) :=
  Or.inr ⟨yX8_ways, cX8_ways, 4, (some .int), none, 4, ok_X8_ways, by decide, by decide, w_code_SumsetryModel_ways__III_I, w_initialized_SumsetryModel, ⟨by decide, by decide⟩, Or.inr (Or.inr ⟨rfl, rfl, show (parseMethodDescriptor yX8_ways.desc).map (fun d => d.parameters.length + 1) = some 4 from by decide +kernel, w_methodLink_SumsetryLaw_151, w_instanceMethod_SumsetryModel_ways__III_I, w_selects_SumsetryModel_ways__III_I, ⟨_, rfl, rfl⟩⟩)⟩
theorem cl_152 : CallOK RL csF DLAW (152, 0, 0, 5, 3, fn_L_popular) :=
  Or.inr ⟨yL_popular, cL_popular, 6, (some .int), (some [(0, 11, 14, 19), (0, 11, 18, 13)]), 8, ok_L_popular, by decide, by decide, w_code_SumsetryLaw_popular__LSumsetry_III_J_I, w_initialized_SumsetryLaw, ⟨by decide, by decide⟩, Or.inl ⟨rfl, show (parseMethodDescriptor yL_popular.desc).map (fun d => d.parameters.length) = some 5 from by decide +kernel, w_methodLink_SumsetryLaw_152, w_static_SumsetryLaw_popular__LSumsetry_III_J_I⟩⟩
theorem cl_154 : CallOK RL csF DLAW (154, 2, 6, 4, 0, fn_X8_popular) :=
  Or.inr ⟨yX8_popular, cX8_popular, 7, (some .long), none, 4, ok_X8_popular, by decide, by decide, w_code_SumsetryModel_popular__III_J, w_initialized_SumsetryModel, ⟨by decide, by decide⟩, Or.inr (Or.inr ⟨rfl, rfl, show (parseMethodDescriptor yX8_popular.desc).map (fun d => d.parameters.length + 1) = some 4 from by decide +kernel, w_methodLink_SumsetryLaw_154, w_instanceMethod_SumsetryModel_popular__III_J, w_selects_SumsetryModel_popular__III_J, ⟨_, rfl, rfl⟩⟩)⟩
theorem cl_155 : CallOK RL csF DLAW (155, 0, 0, 4, 2, fn_L_energy) :=
  Or.inr ⟨yL_energy, cL_energy, 5, (some .int), (some [(0, 10, 13, 19)]), 8, ok_L_energy, by decide, by decide, w_code_SumsetryLaw_energy__LSumsetry_II_J_I, w_initialized_SumsetryLaw, ⟨by decide, by decide⟩, Or.inl ⟨rfl, show (parseMethodDescriptor yL_energy.desc).map (fun d => d.parameters.length) = some 4 from by decide +kernel, w_methodLink_SumsetryLaw_155, w_static_SumsetryLaw_energy__LSumsetry_II_J_I⟩⟩
theorem cl_157 : CallOK RL csF DLAW (157, 2, 6, 3, 0, fn_X8_energy) :=
  Or.inr ⟨yX8_energy, cX8_energy, 6, (some .int), none, 4, ok_X8_energy, by decide, by decide, w_code_SumsetryModel_energy__II_I, w_initialized_SumsetryModel, ⟨by decide, by decide⟩, Or.inr (Or.inr ⟨rfl, rfl, show (parseMethodDescriptor yX8_energy.desc).map (fun d => d.parameters.length + 1) = some 3 from by decide +kernel, w_methodLink_SumsetryLaw_157, w_instanceMethod_SumsetryModel_energy__II_I, w_selects_SumsetryModel_energy__II_I, ⟨_, rfl, rfl⟩⟩)⟩
theorem cl_158 : CallOK RL csF DLAW (158, 0, 0, 4, 2, fn_L_energyAnew) :=
  Or.inr ⟨yL_energyAnew, cL_energyAnew, 5, (some .int), (some [(0, 10, 13, 19)]), 8, ok_L_energyAnew, by decide, by decide, w_code_SumsetryLaw_energyAnew__LSumsetry_II_J_I, w_initialized_SumsetryLaw, ⟨by decide, by decide⟩, Or.inl ⟨rfl, show (parseMethodDescriptor yL_energyAnew.desc).map (fun d => d.parameters.length) = some 4 from by decide +kernel, w_methodLink_SumsetryLaw_158, w_static_SumsetryLaw_energyAnew__LSumsetry_II_J_I⟩⟩
theorem cl_160 : CallOK RL csF DLAW (160, 2, 6, 3, 0, fn_X8_energyAnew) :=
  Or.inr ⟨yX8_energyAnew, cX8_energyAnew, 5, (some .int), none, 4, ok_X8_energyAnew, by decide, by decide, w_code_SumsetryModel_energyAnew__II_I, w_initialized_SumsetryModel, ⟨by decide, by decide⟩, Or.inr (Or.inr ⟨rfl, rfl, show (parseMethodDescriptor yX8_energyAnew.desc).map (fun d => d.parameters.length + 1) = some 3 from by decide +kernel, w_methodLink_SumsetryLaw_160, w_instanceMethod_SumsetryModel_energyAnew__II_I, w_selects_SumsetryModel_energyAnew__II_I, ⟨_, rfl, rfl⟩⟩)⟩
theorem cl_161 : CallOK RL csF DLAW (161, 0, 0, 3, 1, fn_L_stabilizer) :=
  Or.inr ⟨yL_stabilizer, cL_stabilizer, 4, (some .int), (some [(0, 8, 11, 19)]), 8, ok_L_stabilizer, by decide, by decide, w_code_SumsetryLaw_stabilizer__LSumsetry_I_J_I, w_initialized_SumsetryLaw, ⟨by decide, by decide⟩, Or.inl ⟨rfl, show (parseMethodDescriptor yL_stabilizer.desc).map (fun d => d.parameters.length) = some 3 from by decide +kernel, w_methodLink_SumsetryLaw_161, w_static_SumsetryLaw_stabilizer__LSumsetry_I_J_I⟩⟩
theorem cl_163 : CallOK RL csF DLAW (163, 2, 6, 2, 0, fn_X8_stabilizer) :=
  Or.inr ⟨yX8_stabilizer, cX8_stabilizer, 2, (some .long), none, 6, ok_X8_stabilizer, by decide, by decide, w_code_SumsetryModel_stabilizer__I_J, w_initialized_SumsetryModel, ⟨by decide, by decide⟩, Or.inr (Or.inr ⟨rfl, rfl, show (parseMethodDescriptor yX8_stabilizer.desc).map (fun d => d.parameters.length + 1) = some 2 from by decide +kernel, w_methodLink_SumsetryLaw_163, w_instanceMethod_SumsetryModel_stabilizer__I_J, w_selects_SumsetryModel_stabilizer__I_J, ⟨_, rfl, rfl⟩⟩)⟩
theorem cl_164 : CallOK RL csF DLAW (164, 0, 0, 4, 2, fn_L_excess) :=
  Or.inr ⟨yL_excess, cL_excess, 5, (some .int), (some [(0, 10, 13, 19)]), 8, ok_L_excess, by decide, by decide, w_code_SumsetryLaw_excess__LSumsetry_II_J_I, w_initialized_SumsetryLaw, ⟨by decide, by decide⟩, Or.inl ⟨rfl, show (parseMethodDescriptor yL_excess.desc).map (fun d => d.parameters.length) = some 4 from by decide +kernel, w_methodLink_SumsetryLaw_164, w_static_SumsetryLaw_excess__LSumsetry_II_J_I⟩⟩
theorem cl_166 : CallOK RL csF DLAW (166, 2, 6, 3, 0, fn_X8_excess) :=
  Or.inr ⟨yX8_excess, cX8_excess, 7, (some .int), none, 6, ok_X8_excess, by decide, by decide, w_code_SumsetryModel_excess__II_I, w_initialized_SumsetryModel, ⟨by decide, by decide⟩, Or.inr (Or.inr ⟨rfl, rfl, show (parseMethodDescriptor yX8_excess.desc).map (fun d => d.parameters.length + 1) = some 3 from by decide +kernel, w_methodLink_SumsetryLaw_166, w_instanceMethod_SumsetryModel_excess__II_I, w_selects_SumsetryModel_excess__II_I, ⟨_, rfl, rfl⟩⟩)⟩
theorem cl_167 : CallOK RL csF DLAW (167, 0, 0, 5, 3, fn_L_slack) :=
  Or.inr ⟨yL_slack, cL_slack, 6, (some .int), (some [(0, 12, 15, 19)]), 8, ok_L_slack, by decide, by decide, w_code_SumsetryLaw_slack__LSumsetry_III_J_I, w_initialized_SumsetryLaw, ⟨by decide, by decide⟩, Or.inl ⟨rfl, show (parseMethodDescriptor yL_slack.desc).map (fun d => d.parameters.length) = some 5 from by decide +kernel, w_methodLink_SumsetryLaw_167, w_static_SumsetryLaw_slack__LSumsetry_III_J_I⟩⟩
theorem cl_169 : CallOK RL csF DLAW (169, 2, 6, 4, 0, fn_X8_slack) :=
  Or.inr ⟨yX8_slack, cX8_slack, 4, (some .int), none, 5, ok_X8_slack, by decide, by decide, w_code_SumsetryModel_slack__III_I, w_initialized_SumsetryModel, ⟨by decide, by decide⟩, Or.inr (Or.inr ⟨rfl, rfl, show (parseMethodDescriptor yX8_slack.desc).map (fun d => d.parameters.length + 1) = some 4 from by decide +kernel, w_methodLink_SumsetryLaw_169, w_instanceMethod_SumsetryModel_slack__III_I, w_selects_SumsetryModel_slack__III_I, ⟨_, rfl, rfl⟩⟩)⟩
theorem cl_170 : CallOK RL csF DLAW (170, 0, 0, 4, 2, fn_L_cover) :=
  Or.inr ⟨yL_cover, cL_cover, 5, (some .int), (some [(0, 9, 12, 19)]), 8, ok_L_cover, by decide, by decide, w_code_SumsetryLaw_cover__LSumsetry_II_J_I, w_initialized_SumsetryLaw, ⟨by decide, by decide⟩, Or.inl ⟨rfl, show (parseMethodDescriptor yL_cover.desc).map (fun d => d.parameters.length) = some 4 from by decide +kernel, w_methodLink_SumsetryLaw_170, w_static_SumsetryLaw_cover__LSumsetry_II_J_I⟩⟩
theorem cl_172 : CallOK RL csF DLAW (172, 2, 6, 3, 0, fn_X8_cover) :=
  Or.inr ⟨yX8_cover, cX8_cover, 10, (some .long), none, 5, ok_X8_cover, by decide, by decide, w_code_SumsetryModel_cover__II_J, w_initialized_SumsetryModel, ⟨by decide, by decide⟩, Or.inr (Or.inr ⟨rfl, rfl, show (parseMethodDescriptor yX8_cover.desc).map (fun d => d.parameters.length + 1) = some 3 from by decide +kernel, w_methodLink_SumsetryLaw_172, w_instanceMethod_SumsetryModel_cover__II_J, w_selects_SumsetryModel_cover__II_J, ⟨_, rfl, rfl⟩⟩)⟩
theorem cl_173 : CallOK RL csF DLAW (173, 0, 0, 4, 2, fn_L_sums) :=
  Or.inr ⟨yL_sums, cL_sums, 5, (some .int), (some [(0, 9, 12, 19), (0, 9, 16, 13)]), 8, ok_L_sums, by decide, by decide, w_code_SumsetryLaw_sums__LSumsetry_II_J_I, w_initialized_SumsetryLaw, ⟨by decide, by decide⟩, Or.inl ⟨rfl, show (parseMethodDescriptor yL_sums.desc).map (fun d => d.parameters.length) = some 4 from by decide +kernel, w_methodLink_SumsetryLaw_173, w_static_SumsetryLaw_sums__LSumsetry_II_J_I⟩⟩
theorem cl_175 : CallOK RL csF DLAW (175, 2, 6, 3, 0, fn_X8_sums) :=
  Or.inr ⟨yX8_sums, cX8_sums, 3, (some .long), none, 6, ok_X8_sums, by decide, by decide, w_code_SumsetryModel_sums__II_J, w_initialized_SumsetryModel, ⟨by decide, by decide⟩, Or.inr (Or.inr ⟨rfl, rfl, show (parseMethodDescriptor yX8_sums.desc).map (fun d => d.parameters.length + 1) = some 3 from by decide +kernel, w_methodLink_SumsetryLaw_175, w_instanceMethod_SumsetryModel_sums__II_J, w_selects_SumsetryModel_sums__II_J, ⟨_, rfl, rfl⟩⟩)⟩
theorem cl_176 : CallOK RL csF DLAW (176, 0, 0, 3, 1, fn_L_order) :=
  Or.inr ⟨yL_order, cL_order, 4, (some .int), (some [(0, 9, 12, 19)]), 8, ok_L_order, by decide, by decide, w_code_SumsetryLaw_order__LSumsetry_I_J_I, w_initialized_SumsetryLaw, ⟨by decide, by decide⟩, Or.inl ⟨rfl, show (parseMethodDescriptor yL_order.desc).map (fun d => d.parameters.length) = some 3 from by decide +kernel, w_methodLink_SumsetryLaw_176, w_static_SumsetryLaw_order__LSumsetry_I_J_I⟩⟩
theorem cl_178 : CallOK RL csF DLAW (178, 2, 6, 2, 0, fn_X8_order) :=
  Or.inr ⟨yX8_order, cX8_order, 2, (some .int), none, 6, ok_X8_order, by decide, by decide, w_code_SumsetryModel_order__I_I, w_initialized_SumsetryModel, ⟨by decide, by decide⟩, Or.inr (Or.inr ⟨rfl, rfl, show (parseMethodDescriptor yX8_order.desc).map (fun d => d.parameters.length + 1) = some 2 from by decide +kernel, w_methodLink_SumsetryLaw_178, w_instanceMethod_SumsetryModel_order__I_I, w_selects_SumsetryModel_order__I_I, ⟨_, rfl, rfl⟩⟩)⟩
theorem cl_179 : CallOK RL csF DLAW (179, 0, 0, 3, 1, fn_L_essential) :=
  Or.inr ⟨yL_essential, cL_essential, 4, (some .int), (some [(0, 8, 11, 19)]), 8, ok_L_essential, by decide, by decide, w_code_SumsetryLaw_essential__LSumsetry_I_J_I, w_initialized_SumsetryLaw, ⟨by decide, by decide⟩, Or.inl ⟨rfl, show (parseMethodDescriptor yL_essential.desc).map (fun d => d.parameters.length) = some 3 from by decide +kernel, w_methodLink_SumsetryLaw_179, w_static_SumsetryLaw_essential__LSumsetry_I_J_I⟩⟩
theorem cl_181 : CallOK RL csF DLAW (181, 2, 6, 2, 0, fn_X8_essential) :=
  Or.inr ⟨yX8_essential, cX8_essential, 6, (some .long), none, 6, ok_X8_essential, by decide, by decide, w_code_SumsetryModel_essential__I_J, w_initialized_SumsetryModel, ⟨by decide, by decide⟩, Or.inr (Or.inr ⟨rfl, rfl, show (parseMethodDescriptor yX8_essential.desc).map (fun d => d.parameters.length + 1) = some 2 from by decide +kernel, w_methodLink_SumsetryLaw_181, w_instanceMethod_SumsetryModel_essential__I_J, w_selects_SumsetryModel_essential__I_J, ⟨_, rfl, rfl⟩⟩)⟩
theorem cl_182 : CallOK RL csF DLAW (182, 0, 0, 6, 4, fn_L_image) :=
  Or.inr ⟨yL_image, cL_image, 7, (some .int), (some [(0, 14, 17, 19), (0, 14, 21, 13), (0, 14, 25, 25)]), 16, ok_L_image, by decide, by decide, w_code_SumsetryLaw_image__LSumsetry_IIII_J_I, w_initialized_SumsetryLaw, ⟨by decide, by decide⟩, Or.inl ⟨rfl, show (parseMethodDescriptor yL_image.desc).map (fun d => d.parameters.length) = some 6 from by decide +kernel, w_methodLink_SumsetryLaw_182, w_static_SumsetryLaw_image__LSumsetry_IIII_J_I⟩⟩
theorem cl_185 : CallOK RL csF DLAW (185, 2, 6, 5, 0, fn_X8_image) :=
  Or.inr ⟨yX8_image, cX8_image, 7, (some .int), none, 7, ok_X8_image, by decide, by decide, w_code_SumsetryModel_image__IIII_I, w_initialized_SumsetryModel, ⟨by decide, by decide⟩, Or.inr (Or.inr ⟨rfl, rfl, show (parseMethodDescriptor yX8_image.desc).map (fun d => d.parameters.length + 1) = some 5 from by decide +kernel, w_methodLink_SumsetryLaw_185, w_instanceMethod_SumsetryModel_image__IIII_I, w_selects_SumsetryModel_image__IIII_I, ⟨_, rfl, rfl⟩⟩)⟩
theorem cl_186 : CallOK RL csF DLAW (186, 0, 0, 5, 3, fn_L_maps) :=
  Or.inr ⟨yL_maps, cL_maps, 6, (some .int), (some [(0, 12, 15, 19), (0, 12, 19, 13), (0, 12, 23, 25)]), 16, ok_L_maps, by decide, by decide, w_code_SumsetryLaw_maps__LSumsetry_III_J_I, w_initialized_SumsetryLaw, ⟨by decide, by decide⟩, Or.inl ⟨rfl, show (parseMethodDescriptor yL_maps.desc).map (fun d => d.parameters.length) = some 5 from by decide +kernel, w_methodLink_SumsetryLaw_186, w_static_SumsetryLaw_maps__LSumsetry_III_J_I⟩⟩
theorem cl_188 : CallOK RL csF DLAW (188, 2, 6, 4, 0, fn_X8_maps) :=
  Or.inr ⟨yX8_maps, cX8_maps, 4, (some .int), none, 7, ok_X8_maps, by decide, by decide, w_code_SumsetryModel_maps__III_I, w_initialized_SumsetryModel, ⟨by decide, by decide⟩, Or.inr (Or.inr ⟨rfl, rfl, show (parseMethodDescriptor yX8_maps.desc).map (fun d => d.parameters.length + 1) = some 4 from by decide +kernel, w_methodLink_SumsetryLaw_188, w_instanceMethod_SumsetryModel_maps__III_I, w_selects_SumsetryModel_maps__III_I, ⟨_, rfl, rfl⟩⟩)⟩
theorem cl_189 : CallOK RL csF DLAW (189, 0, 0, 4, 2, fn_L_keeps) :=
  Or.inr ⟨yL_keeps, cL_keeps, 5, (some .int), (some [(0, 17, 20, 19)]), 8, ok_L_keeps, by decide, by decide, w_code_SumsetryLaw_keeps__LSumsetry_II_J_I, w_initialized_SumsetryLaw, ⟨by decide, by decide⟩, Or.inl ⟨rfl, show (parseMethodDescriptor yL_keeps.desc).map (fun d => d.parameters.length) = some 4 from by decide +kernel, w_methodLink_SumsetryLaw_189, w_static_SumsetryLaw_keeps__LSumsetry_II_J_I⟩⟩
theorem cl_191 : CallOK RL csF DLAW (191, 2, 6, 3, 0, fn_X8_keeps) :=
  Or.inr ⟨yX8_keeps, cX8_keeps, 3, (some .boolean), none, 7, ok_X8_keeps, by decide, by decide, w_code_SumsetryModel_keeps__II_Z, w_initialized_SumsetryModel, ⟨by decide, by decide⟩, Or.inr (Or.inr ⟨rfl, rfl, show (parseMethodDescriptor yX8_keeps.desc).map (fun d => d.parameters.length + 1) = some 3 from by decide +kernel, w_methodLink_SumsetryLaw_191, w_instanceMethod_SumsetryModel_keeps__II_Z, w_selects_SumsetryModel_keeps__II_Z, ⟨_, rfl, rfl⟩⟩)⟩
theorem cl_192 : CallOK RL csF DLAW (192, 0, 0, 4, 3, fn_L_greatest) :=
  Or.inr ⟨yL_greatest, cL_greatest, 5, (some .int), (some [(0, 9, 12, 19), (0, 9, 16, 25)]), 24, ok_L_greatest, by decide, by decide, w_code_SumsetryLaw_greatest__LSumsetry_II_J_I, w_initialized_SumsetryLaw, ⟨by decide, by decide⟩, Or.inl ⟨rfl, show (parseMethodDescriptor yL_greatest.desc).map (fun d => d.parameters.length) = some 4 from by decide +kernel, w_methodLink_SumsetryLaw_192, w_static_SumsetryLaw_greatest__LSumsetry_II_J_I⟩⟩
theorem cl_194 : CallOK RL csF DLAW (194, 2, 6, 3, 0, fn_X8_greatest) :=
  Or.inr ⟨yX8_greatest, cX8_greatest, 3, (some .long), none, 8, ok_X8_greatest, by decide, by decide, w_code_SumsetryModel_greatest__II_J, w_initialized_SumsetryModel, ⟨by decide, by decide⟩, Or.inr (Or.inr ⟨rfl, rfl, show (parseMethodDescriptor yX8_greatest.desc).map (fun d => d.parameters.length + 1) = some 3 from by decide +kernel, w_methodLink_SumsetryLaw_194, w_instanceMethod_SumsetryModel_greatest__II_J, w_selects_SumsetryModel_greatest__II_J, ⟨_, rfl, rfl⟩⟩)⟩
theorem cl_195 : CallOK RL csF DLAW (195, 0, 0, 4, 3, fn_L_greatestAnew) :=
  Or.inr ⟨yL_greatestAnew, cL_greatestAnew, 5, (some .int), (some [(0, 9, 12, 19), (0, 9, 16, 25)]), 9, ok_L_greatestAnew, by decide, by decide, w_code_SumsetryLaw_greatestAnew__LSumsetry_II_J_I, w_initialized_SumsetryLaw, ⟨by decide, by decide⟩, Or.inl ⟨rfl, show (parseMethodDescriptor yL_greatestAnew.desc).map (fun d => d.parameters.length) = some 4 from by decide +kernel, w_methodLink_SumsetryLaw_195, w_static_SumsetryLaw_greatestAnew__LSumsetry_II_J_I⟩⟩
theorem cl_197 : CallOK RL csF DLAW (197, 2, 6, 3, 0, fn_X8_greatestAnew) :=
  Or.inr ⟨yX8_greatestAnew, cX8_greatestAnew, 3, (some .long), none, 8, ok_X8_greatestAnew, by decide, by decide, w_code_SumsetryModel_greatestAnew__II_J, w_initialized_SumsetryModel, ⟨by decide, by decide⟩, Or.inr (Or.inr ⟨rfl, rfl, show (parseMethodDescriptor yX8_greatestAnew.desc).map (fun d => d.parameters.length + 1) = some 3 from by decide +kernel, w_methodLink_SumsetryLaw_197, w_instanceMethod_SumsetryModel_greatestAnew__II_J, w_selects_SumsetryModel_greatestAnew__II_J, ⟨_, rfl, rfl⟩⟩)⟩
theorem cl_198 : CallOK RL csF DLAW (198, 0, 0, 4, 2, fn_L_wins) :=
  Or.inr ⟨yL_wins, cL_wins, 6, (some .int), (some [(0, 10, 13, 19), (0, 10, 17, 13), (0, 10, 21, 25)]), 10, ok_L_wins, by decide, by decide, w_code_SumsetryLaw_wins__LSumsetry_IJ_J_I, w_initialized_SumsetryLaw, ⟨by decide, by decide⟩, Or.inl ⟨rfl, show (parseMethodDescriptor yL_wins.desc).map (fun d => d.parameters.length) = some 4 from by decide +kernel, w_methodLink_SumsetryLaw_198, w_static_SumsetryLaw_wins__LSumsetry_IJ_J_I⟩⟩
theorem cl_201 : CallOK RL csF DLAW (201, 2, 6, 3, 0, fn_X8_wins) :=
  Or.inr ⟨yX8_wins, cX8_wins, 8, (some .long), none, 7, ok_X8_wins, by decide, by decide, w_code_SumsetryModel_wins__IJ_J, w_initialized_SumsetryModel, ⟨by decide, by decide⟩, Or.inr (Or.inr ⟨rfl, rfl, show (parseMethodDescriptor yX8_wins.desc).map (fun d => d.parameters.length + 1) = some 3 from by decide +kernel, w_methodLink_SumsetryLaw_201, w_instanceMethod_SumsetryModel_wins__IJ_J, w_selects_SumsetryModel_wins__IJ_J, ⟨_, rfl, rfl⟩⟩)⟩
theorem cl_202 : CallOK RL csF DLAW (202, 0, 0, 3, 2, fn_L_put) :=
  Or.inr ⟨yL_put, cL_put, 4, (some .int), (some [(0, 9, 12, 19), (0, 9, 15, 25)]), 8, ok_L_put, by decide, by decide, w_code_SumsetryLaw_put__LSumsetry_I_J_I, w_initialized_SumsetryLaw, ⟨by decide, by decide⟩, Or.inl ⟨rfl, show (parseMethodDescriptor yL_put.desc).map (fun d => d.parameters.length) = some 3 from by decide +kernel, w_methodLink_SumsetryLaw_202, w_static_SumsetryLaw_put__LSumsetry_I_J_I⟩⟩
theorem cl_204 : CallOK RL csF DLAW (204, 2, 6, 2, 0, fn_X8_put) :=
  Or.inr ⟨yX8_put, cX8_put, 2, (some .int), none, 3, ok_X8_put, by decide, by decide, w_code_SumsetryModel_put__I_I, w_initialized_SumsetryModel, ⟨by decide, by decide⟩, Or.inr (Or.inr ⟨rfl, rfl, show (parseMethodDescriptor yX8_put.desc).map (fun d => d.parameters.length + 1) = some 2 from by decide +kernel, w_methodLink_SumsetryLaw_204, w_instanceMethod_SumsetryModel_put__I_I, w_selects_SumsetryModel_put__I_I, ⟨_, rfl, rfl⟩⟩)⟩
theorem cl_205 : CallOK RL csF DLAW (205, 2, 5, 1, 0, fn_X7_wipe) :=
  Or.inr ⟨yX7_wipe, cX7_wipe, 2, (some .int), none, 2, ok_X7_wipe, by decide, by decide, w_code_Sumsetry_wipe___I, w_initialized_Sumsetry, ⟨by decide, by decide⟩, Or.inr (Or.inr ⟨rfl, rfl, show (parseMethodDescriptor yX7_wipe.desc).map (fun d => d.parameters.length + 1) = some 1 from by decide +kernel, w_methodLink_SumsetryLaw_205, w_instanceMethod_Sumsetry_wipe___I, w_selects_Sumsetry_wipe___I, ⟨_, rfl, rfl⟩⟩)⟩
theorem cl_208 : CallOK RL csF DLAW (208, 2, 6, 1, 0, fn_X8_wipe) :=
  Or.inr ⟨yX8_wipe, cX8_wipe, 2, (some .int), none, 1, ok_X8_wipe, by decide, by decide, w_code_SumsetryModel_wipe___I, w_initialized_SumsetryModel, ⟨by decide, by decide⟩, Or.inr (Or.inr ⟨rfl, rfl, show (parseMethodDescriptor yX8_wipe.desc).map (fun d => d.parameters.length + 1) = some 1 from by decide +kernel, w_methodLink_SumsetryLaw_208, w_instanceMethod_SumsetryModel_wipe___I, w_selects_SumsetryModel_wipe___I, ⟨_, rfl, rfl⟩⟩)⟩
theorem cl_209 : CallOK RL csF DLAW (209, 2, 5, 1, 0, fn_X7_zero) :=
  Or.inr ⟨yX7_zero, cX7_zero, 1, (some .int), none, 4, ok_X7_zero, by decide, by decide, w_code_Sumsetry_zero___I, w_initialized_Sumsetry, ⟨by decide, by decide⟩, Or.inr (Or.inr ⟨rfl, rfl, show (parseMethodDescriptor yX7_zero.desc).map (fun d => d.parameters.length + 1) = some 1 from by decide +kernel, w_methodLink_SumsetryLaw_209, w_instanceMethod_Sumsetry_zero___I, w_selects_Sumsetry_zero___I, ⟨_, rfl, rfl⟩⟩)⟩
theorem cl_212 : CallOK RL csF DLAW (212, 2, 6, 1, 0, fn_X8_zero) :=
  Or.inr ⟨yX8_zero, cX8_zero, 5, (some .int), none, 4, ok_X8_zero, by decide, by decide, w_code_SumsetryModel_zero___I, w_initialized_SumsetryModel, ⟨by decide, by decide⟩, Or.inr (Or.inr ⟨rfl, rfl, show (parseMethodDescriptor yX8_zero.desc).map (fun d => d.parameters.length + 1) = some 1 from by decide +kernel, w_methodLink_SumsetryLaw_212, w_instanceMethod_SumsetryModel_zero___I, w_selects_SumsetryModel_zero___I, ⟨_, rfl, rfl⟩⟩)⟩
theorem cl_213 : CallOK RL csF DLAW (213, 0, 0, 2, 1, fn_L_constant) :=
  Or.inr ⟨yL_constant, cL_constant, 3, (some .int), (some [(0, 8, 11, 25)]), 7, ok_L_constant, by decide, by decide, w_code_SumsetryLaw_constant__LSumsetry__J_I, w_initialized_SumsetryLaw, ⟨by decide, by decide⟩, Or.inl ⟨rfl, show (parseMethodDescriptor yL_constant.desc).map (fun d => d.parameters.length) = some 2 from by decide +kernel, w_methodLink_SumsetryLaw_213, w_static_SumsetryLaw_constant__LSumsetry__J_I⟩⟩
theorem cl_216 : CallOK RL csF DLAW (216, 2, 6, 1, 0, fn_X8_constant) :=
  Or.inr ⟨yX8_constant, cX8_constant, 7, (some .int), none, 5, ok_X8_constant, by decide, by decide, w_code_SumsetryModel_constant___I, w_initialized_SumsetryModel, ⟨by decide, by decide⟩, Or.inr (Or.inr ⟨rfl, rfl, show (parseMethodDescriptor yX8_constant.desc).map (fun d => d.parameters.length + 1) = some 1 from by decide +kernel, w_methodLink_SumsetryLaw_216, w_instanceMethod_SumsetryModel_constant___I, w_selects_SumsetryModel_constant___I, ⟨_, rfl, rfl⟩⟩)⟩
theorem cl_217 : CallOK RL csF DLAW (217, 0, 0, 3, 1, fn_L_root) :=
  Or.inr ⟨yL_root, cL_root, 4, (some .int), (some [(0, 6, 9, 13), (0, 6, 12, 25)]), 7, ok_L_root, by decide, by decide, w_code_SumsetryLaw_root__LSumsetry_II_I, w_initialized_SumsetryLaw, ⟨by decide, by decide⟩, Or.inl ⟨rfl, show (parseMethodDescriptor yL_root.desc).map (fun d => d.parameters.length) = some 3 from by decide +kernel, w_methodLink_SumsetryLaw_217, w_static_SumsetryLaw_root__LSumsetry_II_I⟩⟩
theorem cl_220 : CallOK RL csF DLAW (220, 2, 6, 3, 0, fn_X8_root) :=
  Or.inr ⟨yX8_root, cX8_root, 4, none, none, 2, ok_X8_root, by decide, by decide, w_code_SumsetryModel_root__II_V, w_initialized_SumsetryModel, ⟨by decide, by decide⟩, Or.inr (Or.inr ⟨rfl, rfl, show (parseMethodDescriptor yX8_root.desc).map (fun d => d.parameters.length + 1) = some 3 from by decide +kernel, w_methodLink_SumsetryLaw_220, w_instanceMethod_SumsetryModel_root__II_V, w_selects_SumsetryModel_root__II_V, ⟨_, rfl, rfl⟩⟩)⟩
theorem cl_221 : CallOK RL csF DLAW (221, 0, 0, 4, 2, fn_L_transform) :=
  Or.inr ⟨yL_transform, cL_transform, 5, (some .int), (some [(0, 10, 13, 19), (0, 10, 17, 13), (0, 10, 21, 25)]), 8, ok_L_transform, by decide, by decide, w_code_SumsetryLaw_transform__LSumsetry_II_J_I, w_initialized_SumsetryLaw, ⟨by decide, by decide⟩, Or.inl ⟨rfl, show (parseMethodDescriptor yL_transform.desc).map (fun d => d.parameters.length) = some 4 from by decide +kernel, w_methodLink_SumsetryLaw_221, w_static_SumsetryLaw_transform__LSumsetry_II_J_I⟩⟩
theorem cl_223 : CallOK RL csF DLAW (223, 2, 6, 3, 0, fn_X8_transform) :=
  Or.inr ⟨yX8_transform, cX8_transform, 3, (some .int), none, 3, ok_X8_transform, by decide, by decide, w_code_SumsetryModel_transform__II_I, w_initialized_SumsetryModel, ⟨by decide, by decide⟩, Or.inr (Or.inr ⟨rfl, rfl, show (parseMethodDescriptor yX8_transform.desc).map (fun d => d.parameters.length + 1) = some 3 from by decide +kernel, w_methodLink_SumsetryLaw_223, w_instanceMethod_SumsetryModel_transform__II_I, w_selects_SumsetryModel_transform__II_I, ⟨_, rfl, rfl⟩⟩)⟩
theorem cl_224 : CallOK RL csF DLAW (224, 0, 0, 5, 4, fn_L_waysAnew) :=
  Or.inr ⟨yL_waysAnew, cL_waysAnew, 6, (some .int), (some [(0, 12, 15, 19), (0, 12, 19, 25)]), 8, ok_L_waysAnew, by decide, by decide, w_code_SumsetryLaw_waysAnew__LSumsetry_III_J_I, w_initialized_SumsetryLaw, ⟨by decide, by decide⟩, Or.inl ⟨rfl, show (parseMethodDescriptor yL_waysAnew.desc).map (fun d => d.parameters.length) = some 5 from by decide +kernel, w_methodLink_SumsetryLaw_224, w_static_SumsetryLaw_waysAnew__LSumsetry_III_J_I⟩⟩
theorem cl_226 : CallOK RL csF DLAW (226, 2, 6, 4, 0, fn_X8_waysAnew) :=
  Or.inr ⟨yX8_waysAnew, cX8_waysAnew, 9, (some .int), none, 3, ok_X8_waysAnew, by decide, by decide, w_code_SumsetryModel_waysAnew__III_I, w_initialized_SumsetryModel, ⟨by decide, by decide⟩, Or.inr (Or.inr ⟨rfl, rfl, show (parseMethodDescriptor yX8_waysAnew.desc).map (fun d => d.parameters.length + 1) = some 4 from by decide +kernel, w_methodLink_SumsetryLaw_226, w_instanceMethod_SumsetryModel_waysAnew__III_I, w_selects_SumsetryModel_waysAnew__III_I, ⟨_, rfl, rfl⟩⟩)⟩
theorem cl_227 : CallOK RL csF DLAW (227, 0, 0, 3, 1, fn_L_of) :=
  Or.inr ⟨yL_of, cL_of, 4, (some .int), (some [(0, 9, 12, 13)]), 7, ok_L_of, by decide, by decide, w_code_SumsetryLaw_of__LSumsetry_I_J_I, w_initialized_SumsetryLaw, ⟨by decide, by decide⟩, Or.inl ⟨rfl, show (parseMethodDescriptor yL_of.desc).map (fun d => d.parameters.length) = some 3 from by decide +kernel, w_methodLink_SumsetryLaw_227, w_static_SumsetryLaw_of__LSumsetry_I_J_I⟩⟩
theorem cl_229 : CallOK RL csF DLAW (229, 2, 6, 2, 0, fn_X8_of) :=
  Or.inr ⟨yX8_of, cX8_of, 2, (some .int), none, 2, ok_X8_of, by decide, by decide, w_code_SumsetryModel_of__I_I, w_initialized_SumsetryModel, ⟨by decide, by decide⟩, Or.inr (Or.inr ⟨rfl, rfl, show (parseMethodDescriptor yX8_of.desc).map (fun d => d.parameters.length + 1) = some 2 from by decide +kernel, w_methodLink_SumsetryLaw_229, w_instanceMethod_SumsetryModel_of__I_I, w_selects_SumsetryModel_of__I_I, ⟨_, rfl, rfl⟩⟩)⟩
/-- a machine for some of the law's rows, over the script xs of L ints -/
def LawC (L : Nat) (xs : Nat → Int32) (C : Cfg) : Prop := CfgOK RL code C DLAW ∧ C.cs = csF ∧ C.hs = [] ∧ C.scr = some (L, xs) ∧ C.ret = some .boolean ∧ C.cap = 8
abbrev loL (i : Int32) : List (Option Value) := [some (.ref 30), some (.ref 0), some (.ref 19), some (.ref 29), some (.int i), none, none, none]
theorem run_ld {C : Cfg} {L : Nat} {xs : Nat → Int32} {pc k : Nat} {lo : List (Option Value)} {st : List Value} {M : Mem} {j : Int32} (hl : lk C.code pc = some (.iaload, 1)) (hk : Nat.ble k C.cap = true) (hs : C.scr = some (L, xs)) (h : inb j L = true) : run C 1 (pc, lo, .int j :: .ref 30 :: st, M, k) = some (.inl (pc + 1, lo, .int (xs (ix j)) :: st, M, k)) := by
  refine run_1 ?_
  unfold stp
  simp only [hl, hk, ilen, lenok, Bool.and_true, cond_true, xi, hs, h]
  rfl
theorem run_out {C : Cfg} {pc k : Nat} {lo : List (Option Value)} {st : List Value} {M : Mem} (hl : lk C.code pc = some (.laload, 1)) (hk : Nat.ble k C.cap = true) (hc : C.cs.contains 29 = true) : run C 1 (pc, lo, .int (0 : Int32) :: .ref 29 :: st, M, k) = some (.inl (pc + 1, lo, .long (M.2 29 0) :: st, M, k)) := by
  have h0 : inb (0 : Int32) 1 = true := by decide
  have h1 : ix (0 : Int32) = 0 := by decide
  refine run_1 ?_
  unfold stp
  simp only [hl, hk, ilen, lenok, Bool.and_true, cond_true, xi]
  first
    | (simp only [LAY, List.getElem?_cons_succ, List.getElem?_cons_zero, hc, h0, h1, cond_true, if_true]; rfl)
    | (show (bif C.cs.contains 29 then (if inb (0 : Int32) 1 = true then _ else _) else _) = _
       rw [hc, h0]
       show some _ = some _
       rw [h1])
def t_law_H : List (Nat × Instr × Nat) := [(20, .iconst 0, 1), (21, .istore 4, 2), (23, .iload 4, 2), (25, .aload_n 0, 1), (26, .arraylength, 1), (27, .iconst 5, 1), (28, .isub, 1), (29, .if_icmp .gt 2221, 3), (32, .aload_n 0, 1), (33, .iload 4, 2), (35, .iaload, 1), (36, .bipush 31, 2), (38, .iand, 1), (39, .tableswitch 2205 0 30 #[137, 205, 301, 389, 469, 549, 604, 684, 763, 831, 899, 954, 1022, 1102, 1169, 1236, 1292, 1347, 1439, 1519, 1594, 1661, 1728, 1827, 1883, 1896, 1909, 1953, 2001, 2069, 2149], 137), (2244, .iinc 4 5, 3), (2247, .goto (-2224), 3), (2250, .iconst 1, 1), (2251, .ireturn, 1)]
theorem tk_law_H : ∀ x ∈ t_law_H, decode code x.1 = .ok x.2 := by decide +kernel
def C_law_H (L : Nat) (xs : Nat → Int32) : Cfg := (t_law_H, csF, fl_L, [], in_L, lg_L, [], [], some (L, xs), some .boolean, 8)
theorem lok_H (L : Nat) (xs : Nat → Int32) : LawC L xs (C_law_H L xs) := ⟨⟨tk_law_H, csF_nd, flk_L, (fun e h => absurd h List.not_mem_nil), ink_L, lgk_L, fun e h => absurd h List.not_mem_nil, fun h hh => absurd hh List.not_mem_nil⟩, rfl, rfl, rfl, rfl, rfl⟩
set_option maxRecDepth 100000 in
theorem bl_H_0 : (fun (L : Nat) (xs : Nat → Int32) (i : Int32) (M : Mem) => run (C_law_H L xs) 6 (23, [some (.ref 30), some (.ref 0), some (.ref 19), some (.ref 29), some (.int i), none, none, none], [], M, 0)) = (fun (L : Nat) (xs : Nat → Int32) (i : Int32) (M : Mem) => some (.inl ((br (!decide (i ≤ Int32.ofNat L - (5 : Int32))) 29 3 (2221)), [some (.ref 30), some (.ref 0), some (.ref 19), some (.ref 29), some (.int i), none, none, none], [], M, 0))) := by rfl
set_option maxRecDepth 100000 in
theorem bl_H_1 : (fun (L : Nat) (xs : Nat → Int32) (i : Int32) (M : Mem) => run (C_law_H L xs) 2 (32, [some (.ref 30), some (.ref 0), some (.ref 19), some (.ref 29), some (.int i), none, none, none], [], M, 0)) = (fun (L : Nat) (xs : Nat → Int32) (i : Int32) (M : Mem) => some (.inl (35, [some (.ref 30), some (.ref 0), some (.ref 19), some (.ref 29), some (.int i), none, none, none], [.int i, .ref 30], M, 0))) := by rfl
set_option maxRecDepth 100000 in
theorem bl_H_2 : (fun (L : Nat) (xs : Nat → Int32) (i : Int32) (M : Mem) => run (C_law_H L xs) 2 (36, [some (.ref 30), some (.ref 0), some (.ref 19), some (.ref 29), some (.int i), none, none, none], [.int (xs (ix i))], M, 0)) = (fun (L : Nat) (xs : Nat → Int32) (i : Int32) (M : Mem) => some (.inl (39, [some (.ref 30), some (.ref 0), some (.ref 19), some (.ref 29), some (.int i), none, none, none], [.int (xs (ix i) &&& (31 : Int32))], M, 0))) := by rfl
set_option maxRecDepth 100000 in
theorem bl_H_3 : (fun (L : Nat) (xs : Nat → Int32) (M : Mem) => run (C_law_H L xs) 2 (20, [some (.ref 30), some (.ref 0), some (.ref 19), some (.ref 29), none, none, none, none], [], M, 0)) = (fun (L : Nat) (xs : Nat → Int32) (M : Mem) => some (.inl (23, [some (.ref 30), some (.ref 0), some (.ref 19), some (.ref 29), some (.int (0 : Int32)), none, none, none], [], M, 0))) := by rfl
set_option maxRecDepth 100000 in
theorem bl_H_4 : (fun (L : Nat) (xs : Nat → Int32) (i : Int32) (M : Mem) => run (C_law_H L xs) 2 (2244, [some (.ref 30), some (.ref 0), some (.ref 19), some (.ref 29), some (.int i), none, none, none], [], M, 0)) = (fun (L : Nat) (xs : Nat → Int32) (i : Int32) (M : Mem) => some (.inl (23, [some (.ref 30), some (.ref 0), some (.ref 19), some (.ref 29), some (.int (i + (5 : Int32))), none, none, none], [], M, 0))) := by rfl
set_option maxRecDepth 100000 in
theorem bl_H_5 : (fun (L : Nat) (xs : Nat → Int32) (i : Int32) (M : Mem) => run (C_law_H L xs) 1 (39, [some (.ref 30), some (.ref 0), some (.ref 19), some (.ref 29), some (.int i), none, none, none], [.int (0 : Int32)], M, 0)) = (fun (L : Nat) (xs : Nat → Int32) (i : Int32) (M : Mem) => some (.inl (176, [some (.ref 30), some (.ref 0), some (.ref 19), some (.ref 29), some (.int i), none, none, none], [], M, 0))) := by rfl
set_option maxRecDepth 100000 in
theorem bl_H_6 : (fun (L : Nat) (xs : Nat → Int32) (i : Int32) (M : Mem) => run (C_law_H L xs) 1 (39, [some (.ref 30), some (.ref 0), some (.ref 19), some (.ref 29), some (.int i), none, none, none], [.int (1 : Int32)], M, 0)) = (fun (L : Nat) (xs : Nat → Int32) (i : Int32) (M : Mem) => some (.inl (244, [some (.ref 30), some (.ref 0), some (.ref 19), some (.ref 29), some (.int i), none, none, none], [], M, 0))) := by rfl
set_option maxRecDepth 100000 in
theorem bl_H_7 : (fun (L : Nat) (xs : Nat → Int32) (i : Int32) (M : Mem) => run (C_law_H L xs) 1 (39, [some (.ref 30), some (.ref 0), some (.ref 19), some (.ref 29), some (.int i), none, none, none], [.int (2 : Int32)], M, 0)) = (fun (L : Nat) (xs : Nat → Int32) (i : Int32) (M : Mem) => some (.inl (340, [some (.ref 30), some (.ref 0), some (.ref 19), some (.ref 29), some (.int i), none, none, none], [], M, 0))) := by rfl
set_option maxRecDepth 100000 in
theorem bl_H_8 : (fun (L : Nat) (xs : Nat → Int32) (i : Int32) (M : Mem) => run (C_law_H L xs) 1 (39, [some (.ref 30), some (.ref 0), some (.ref 19), some (.ref 29), some (.int i), none, none, none], [.int (3 : Int32)], M, 0)) = (fun (L : Nat) (xs : Nat → Int32) (i : Int32) (M : Mem) => some (.inl (428, [some (.ref 30), some (.ref 0), some (.ref 19), some (.ref 29), some (.int i), none, none, none], [], M, 0))) := by rfl
set_option maxRecDepth 100000 in
theorem bl_H_9 : (fun (L : Nat) (xs : Nat → Int32) (i : Int32) (M : Mem) => run (C_law_H L xs) 1 (39, [some (.ref 30), some (.ref 0), some (.ref 19), some (.ref 29), some (.int i), none, none, none], [.int (4 : Int32)], M, 0)) = (fun (L : Nat) (xs : Nat → Int32) (i : Int32) (M : Mem) => some (.inl (508, [some (.ref 30), some (.ref 0), some (.ref 19), some (.ref 29), some (.int i), none, none, none], [], M, 0))) := by rfl
set_option maxRecDepth 100000 in
theorem bl_H_10 : (fun (L : Nat) (xs : Nat → Int32) (i : Int32) (M : Mem) => run (C_law_H L xs) 1 (39, [some (.ref 30), some (.ref 0), some (.ref 19), some (.ref 29), some (.int i), none, none, none], [.int (5 : Int32)], M, 0)) = (fun (L : Nat) (xs : Nat → Int32) (i : Int32) (M : Mem) => some (.inl (588, [some (.ref 30), some (.ref 0), some (.ref 19), some (.ref 29), some (.int i), none, none, none], [], M, 0))) := by rfl
set_option maxRecDepth 100000 in
theorem bl_H_11 : (fun (L : Nat) (xs : Nat → Int32) (i : Int32) (M : Mem) => run (C_law_H L xs) 1 (39, [some (.ref 30), some (.ref 0), some (.ref 19), some (.ref 29), some (.int i), none, none, none], [.int (6 : Int32)], M, 0)) = (fun (L : Nat) (xs : Nat → Int32) (i : Int32) (M : Mem) => some (.inl (643, [some (.ref 30), some (.ref 0), some (.ref 19), some (.ref 29), some (.int i), none, none, none], [], M, 0))) := by rfl
set_option maxRecDepth 100000 in
theorem bl_H_12 : (fun (L : Nat) (xs : Nat → Int32) (i : Int32) (M : Mem) => run (C_law_H L xs) 1 (39, [some (.ref 30), some (.ref 0), some (.ref 19), some (.ref 29), some (.int i), none, none, none], [.int (7 : Int32)], M, 0)) = (fun (L : Nat) (xs : Nat → Int32) (i : Int32) (M : Mem) => some (.inl (723, [some (.ref 30), some (.ref 0), some (.ref 19), some (.ref 29), some (.int i), none, none, none], [], M, 0))) := by rfl
set_option maxRecDepth 100000 in
theorem bl_H_13 : (fun (L : Nat) (xs : Nat → Int32) (i : Int32) (M : Mem) => run (C_law_H L xs) 1 (39, [some (.ref 30), some (.ref 0), some (.ref 19), some (.ref 29), some (.int i), none, none, none], [.int (8 : Int32)], M, 0)) = (fun (L : Nat) (xs : Nat → Int32) (i : Int32) (M : Mem) => some (.inl (802, [some (.ref 30), some (.ref 0), some (.ref 19), some (.ref 29), some (.int i), none, none, none], [], M, 0))) := by rfl
set_option maxRecDepth 100000 in
theorem bl_H_14 : (fun (L : Nat) (xs : Nat → Int32) (i : Int32) (M : Mem) => run (C_law_H L xs) 1 (39, [some (.ref 30), some (.ref 0), some (.ref 19), some (.ref 29), some (.int i), none, none, none], [.int (9 : Int32)], M, 0)) = (fun (L : Nat) (xs : Nat → Int32) (i : Int32) (M : Mem) => some (.inl (870, [some (.ref 30), some (.ref 0), some (.ref 19), some (.ref 29), some (.int i), none, none, none], [], M, 0))) := by rfl
set_option maxRecDepth 100000 in
theorem bl_H_15 : (fun (L : Nat) (xs : Nat → Int32) (i : Int32) (M : Mem) => run (C_law_H L xs) 1 (39, [some (.ref 30), some (.ref 0), some (.ref 19), some (.ref 29), some (.int i), none, none, none], [.int (10 : Int32)], M, 0)) = (fun (L : Nat) (xs : Nat → Int32) (i : Int32) (M : Mem) => some (.inl (938, [some (.ref 30), some (.ref 0), some (.ref 19), some (.ref 29), some (.int i), none, none, none], [], M, 0))) := by rfl
set_option maxRecDepth 100000 in
theorem bl_H_16 : (fun (L : Nat) (xs : Nat → Int32) (i : Int32) (M : Mem) => run (C_law_H L xs) 1 (39, [some (.ref 30), some (.ref 0), some (.ref 19), some (.ref 29), some (.int i), none, none, none], [.int (11 : Int32)], M, 0)) = (fun (L : Nat) (xs : Nat → Int32) (i : Int32) (M : Mem) => some (.inl (993, [some (.ref 30), some (.ref 0), some (.ref 19), some (.ref 29), some (.int i), none, none, none], [], M, 0))) := by rfl
set_option maxRecDepth 100000 in
theorem bl_H_17 : (fun (L : Nat) (xs : Nat → Int32) (i : Int32) (M : Mem) => run (C_law_H L xs) 1 (39, [some (.ref 30), some (.ref 0), some (.ref 19), some (.ref 29), some (.int i), none, none, none], [.int (12 : Int32)], M, 0)) = (fun (L : Nat) (xs : Nat → Int32) (i : Int32) (M : Mem) => some (.inl (1061, [some (.ref 30), some (.ref 0), some (.ref 19), some (.ref 29), some (.int i), none, none, none], [], M, 0))) := by rfl
set_option maxRecDepth 100000 in
theorem bl_H_18 : (fun (L : Nat) (xs : Nat → Int32) (i : Int32) (M : Mem) => run (C_law_H L xs) 1 (39, [some (.ref 30), some (.ref 0), some (.ref 19), some (.ref 29), some (.int i), none, none, none], [.int (13 : Int32)], M, 0)) = (fun (L : Nat) (xs : Nat → Int32) (i : Int32) (M : Mem) => some (.inl (1141, [some (.ref 30), some (.ref 0), some (.ref 19), some (.ref 29), some (.int i), none, none, none], [], M, 0))) := by rfl
set_option maxRecDepth 100000 in
theorem bl_H_19 : (fun (L : Nat) (xs : Nat → Int32) (i : Int32) (M : Mem) => run (C_law_H L xs) 1 (39, [some (.ref 30), some (.ref 0), some (.ref 19), some (.ref 29), some (.int i), none, none, none], [.int (14 : Int32)], M, 0)) = (fun (L : Nat) (xs : Nat → Int32) (i : Int32) (M : Mem) => some (.inl (1208, [some (.ref 30), some (.ref 0), some (.ref 19), some (.ref 29), some (.int i), none, none, none], [], M, 0))) := by rfl
set_option maxRecDepth 100000 in
theorem bl_H_20 : (fun (L : Nat) (xs : Nat → Int32) (i : Int32) (M : Mem) => run (C_law_H L xs) 1 (39, [some (.ref 30), some (.ref 0), some (.ref 19), some (.ref 29), some (.int i), none, none, none], [.int (15 : Int32)], M, 0)) = (fun (L : Nat) (xs : Nat → Int32) (i : Int32) (M : Mem) => some (.inl (1275, [some (.ref 30), some (.ref 0), some (.ref 19), some (.ref 29), some (.int i), none, none, none], [], M, 0))) := by rfl
set_option maxRecDepth 100000 in
theorem bl_H_21 : (fun (L : Nat) (xs : Nat → Int32) (i : Int32) (M : Mem) => run (C_law_H L xs) 1 (39, [some (.ref 30), some (.ref 0), some (.ref 19), some (.ref 29), some (.int i), none, none, none], [.int (16 : Int32)], M, 0)) = (fun (L : Nat) (xs : Nat → Int32) (i : Int32) (M : Mem) => some (.inl (1331, [some (.ref 30), some (.ref 0), some (.ref 19), some (.ref 29), some (.int i), none, none, none], [], M, 0))) := by rfl
set_option maxRecDepth 100000 in
theorem bl_H_22 : (fun (L : Nat) (xs : Nat → Int32) (i : Int32) (M : Mem) => run (C_law_H L xs) 1 (39, [some (.ref 30), some (.ref 0), some (.ref 19), some (.ref 29), some (.int i), none, none, none], [.int (17 : Int32)], M, 0)) = (fun (L : Nat) (xs : Nat → Int32) (i : Int32) (M : Mem) => some (.inl (1386, [some (.ref 30), some (.ref 0), some (.ref 19), some (.ref 29), some (.int i), none, none, none], [], M, 0))) := by rfl
set_option maxRecDepth 100000 in
theorem bl_H_23 : (fun (L : Nat) (xs : Nat → Int32) (i : Int32) (M : Mem) => run (C_law_H L xs) 1 (39, [some (.ref 30), some (.ref 0), some (.ref 19), some (.ref 29), some (.int i), none, none, none], [.int (18 : Int32)], M, 0)) = (fun (L : Nat) (xs : Nat → Int32) (i : Int32) (M : Mem) => some (.inl (1478, [some (.ref 30), some (.ref 0), some (.ref 19), some (.ref 29), some (.int i), none, none, none], [], M, 0))) := by rfl
set_option maxRecDepth 100000 in
theorem bl_H_24 : (fun (L : Nat) (xs : Nat → Int32) (i : Int32) (M : Mem) => run (C_law_H L xs) 1 (39, [some (.ref 30), some (.ref 0), some (.ref 19), some (.ref 29), some (.int i), none, none, none], [.int (19 : Int32)], M, 0)) = (fun (L : Nat) (xs : Nat → Int32) (i : Int32) (M : Mem) => some (.inl (1558, [some (.ref 30), some (.ref 0), some (.ref 19), some (.ref 29), some (.int i), none, none, none], [], M, 0))) := by rfl
set_option maxRecDepth 100000 in
theorem bl_H_25 : (fun (L : Nat) (xs : Nat → Int32) (i : Int32) (M : Mem) => run (C_law_H L xs) 1 (39, [some (.ref 30), some (.ref 0), some (.ref 19), some (.ref 29), some (.int i), none, none, none], [.int (20 : Int32)], M, 0)) = (fun (L : Nat) (xs : Nat → Int32) (i : Int32) (M : Mem) => some (.inl (1633, [some (.ref 30), some (.ref 0), some (.ref 19), some (.ref 29), some (.int i), none, none, none], [], M, 0))) := by rfl
set_option maxRecDepth 100000 in
theorem bl_H_26 : (fun (L : Nat) (xs : Nat → Int32) (i : Int32) (M : Mem) => run (C_law_H L xs) 1 (39, [some (.ref 30), some (.ref 0), some (.ref 19), some (.ref 29), some (.int i), none, none, none], [.int (21 : Int32)], M, 0)) = (fun (L : Nat) (xs : Nat → Int32) (i : Int32) (M : Mem) => some (.inl (1700, [some (.ref 30), some (.ref 0), some (.ref 19), some (.ref 29), some (.int i), none, none, none], [], M, 0))) := by rfl
set_option maxRecDepth 100000 in
theorem bl_H_27 : (fun (L : Nat) (xs : Nat → Int32) (i : Int32) (M : Mem) => run (C_law_H L xs) 1 (39, [some (.ref 30), some (.ref 0), some (.ref 19), some (.ref 29), some (.int i), none, none, none], [.int (22 : Int32)], M, 0)) = (fun (L : Nat) (xs : Nat → Int32) (i : Int32) (M : Mem) => some (.inl (1767, [some (.ref 30), some (.ref 0), some (.ref 19), some (.ref 29), some (.int i), none, none, none], [], M, 0))) := by rfl
set_option maxRecDepth 100000 in
theorem bl_H_28 : (fun (L : Nat) (xs : Nat → Int32) (i : Int32) (M : Mem) => run (C_law_H L xs) 1 (39, [some (.ref 30), some (.ref 0), some (.ref 19), some (.ref 29), some (.int i), none, none, none], [.int (23 : Int32)], M, 0)) = (fun (L : Nat) (xs : Nat → Int32) (i : Int32) (M : Mem) => some (.inl (1866, [some (.ref 30), some (.ref 0), some (.ref 19), some (.ref 29), some (.int i), none, none, none], [], M, 0))) := by rfl
set_option maxRecDepth 100000 in
theorem bl_H_29 : (fun (L : Nat) (xs : Nat → Int32) (i : Int32) (M : Mem) => run (C_law_H L xs) 1 (39, [some (.ref 30), some (.ref 0), some (.ref 19), some (.ref 29), some (.int i), none, none, none], [.int (24 : Int32)], M, 0)) = (fun (L : Nat) (xs : Nat → Int32) (i : Int32) (M : Mem) => some (.inl (1922, [some (.ref 30), some (.ref 0), some (.ref 19), some (.ref 29), some (.int i), none, none, none], [], M, 0))) := by rfl
set_option maxRecDepth 100000 in
theorem bl_H_30 : (fun (L : Nat) (xs : Nat → Int32) (i : Int32) (M : Mem) => run (C_law_H L xs) 1 (39, [some (.ref 30), some (.ref 0), some (.ref 19), some (.ref 29), some (.int i), none, none, none], [.int (25 : Int32)], M, 0)) = (fun (L : Nat) (xs : Nat → Int32) (i : Int32) (M : Mem) => some (.inl (1935, [some (.ref 30), some (.ref 0), some (.ref 19), some (.ref 29), some (.int i), none, none, none], [], M, 0))) := by rfl
set_option maxRecDepth 100000 in
theorem bl_H_31 : (fun (L : Nat) (xs : Nat → Int32) (i : Int32) (M : Mem) => run (C_law_H L xs) 1 (39, [some (.ref 30), some (.ref 0), some (.ref 19), some (.ref 29), some (.int i), none, none, none], [.int (26 : Int32)], M, 0)) = (fun (L : Nat) (xs : Nat → Int32) (i : Int32) (M : Mem) => some (.inl (1948, [some (.ref 30), some (.ref 0), some (.ref 19), some (.ref 29), some (.int i), none, none, none], [], M, 0))) := by rfl
set_option maxRecDepth 100000 in
theorem bl_H_32 : (fun (L : Nat) (xs : Nat → Int32) (i : Int32) (M : Mem) => run (C_law_H L xs) 1 (39, [some (.ref 30), some (.ref 0), some (.ref 19), some (.ref 29), some (.int i), none, none, none], [.int (27 : Int32)], M, 0)) = (fun (L : Nat) (xs : Nat → Int32) (i : Int32) (M : Mem) => some (.inl (1992, [some (.ref 30), some (.ref 0), some (.ref 19), some (.ref 29), some (.int i), none, none, none], [], M, 0))) := by rfl
set_option maxRecDepth 100000 in
theorem bl_H_33 : (fun (L : Nat) (xs : Nat → Int32) (i : Int32) (M : Mem) => run (C_law_H L xs) 1 (39, [some (.ref 30), some (.ref 0), some (.ref 19), some (.ref 29), some (.int i), none, none, none], [.int (28 : Int32)], M, 0)) = (fun (L : Nat) (xs : Nat → Int32) (i : Int32) (M : Mem) => some (.inl (2040, [some (.ref 30), some (.ref 0), some (.ref 19), some (.ref 29), some (.int i), none, none, none], [], M, 0))) := by rfl
set_option maxRecDepth 100000 in
theorem bl_H_34 : (fun (L : Nat) (xs : Nat → Int32) (i : Int32) (M : Mem) => run (C_law_H L xs) 1 (39, [some (.ref 30), some (.ref 0), some (.ref 19), some (.ref 29), some (.int i), none, none, none], [.int (29 : Int32)], M, 0)) = (fun (L : Nat) (xs : Nat → Int32) (i : Int32) (M : Mem) => some (.inl (2108, [some (.ref 30), some (.ref 0), some (.ref 19), some (.ref 29), some (.int i), none, none, none], [], M, 0))) := by rfl
set_option maxRecDepth 100000 in
theorem bl_H_35 : (fun (L : Nat) (xs : Nat → Int32) (i : Int32) (M : Mem) => run (C_law_H L xs) 1 (39, [some (.ref 30), some (.ref 0), some (.ref 19), some (.ref 29), some (.int i), none, none, none], [.int (30 : Int32)], M, 0)) = (fun (L : Nat) (xs : Nat → Int32) (i : Int32) (M : Mem) => some (.inl (2188, [some (.ref 30), some (.ref 0), some (.ref 19), some (.ref 29), some (.int i), none, none, none], [], M, 0))) := by rfl
set_option maxRecDepth 100000 in
theorem hd_0 {L : Nat} {xs : Nat → Int32} {i : Int32} {M : Mem} : Rto (C_law_H L xs) (23, loL i, [], M, 0) (br (!decide (i ≤ Int32.ofNat L - (5 : Int32))) 29 3 (2221), loL i, [], M, 0) := Rto.run 6 (congrFun (congrFun (congrFun (congrFun bl_H_0 L) xs) i) M)
theorem hd_1 {L : Nat} {xs : Nat → Int32} {i : Int32} {M : Mem} (h : i ≤ Int32.ofNat L - (5 : Int32)) (i0 : inb i L = true) : Rto (C_law_H L xs) (23, loL i, [], M, 0) (39, loL i, [.int (xs (ix i) &&& (31 : Int32))], M, 0) := by
  refine Rto.trans hd_0 (Rto.trans (Rto.brNF (q := 32) h rfl) ?_)
  refine Rto.trans (Rto.run 2 (congrFun (congrFun (congrFun (congrFun bl_H_1 L) xs) i) M)) ?_
  refine Rto.trans (Rto.run 1 (run_ld rfl rfl rfl i0)) ?_
  exact Rto.run 2 (congrFun (congrFun (congrFun (congrFun bl_H_2 L) xs) i) M)
theorem hd_2 {L : Nat} {xs : Nat → Int32} {i : Int32} {M : Mem} (h : ¬ i ≤ Int32.ofNat L - (5 : Int32)) : Rend (C_law_H L xs) (23, loL i, [], M, 0) (.inl (some (.int 1))) M := by
  refine Rto.end (Rto.trans hd_0 (Rto.brNT (q := 2250) h rfl)) ?_
  exact Rend.run (k := 0) 2 rfl
theorem hd_3 {L : Nat} {xs : Nat → Int32} {M : Mem} : Rto (C_law_H L xs) (20, [some (.ref 30), some (.ref 0), some (.ref 19), some (.ref 29), none, none, none, none], [], M, 0) (23, loL 0, [], M, 0) := Rto.run 2 (congrFun (congrFun (congrFun bl_H_3 L) xs) M)
theorem hd_4 {L : Nat} {xs : Nat → Int32} {i : Int32} {M : Mem} : Rto (C_law_H L xs) (2244, loL i, [], M, 0) (23, loL (i + (5 : Int32)), [], M, 0) := Rto.run 2 (congrFun (congrFun (congrFun (congrFun bl_H_4 L) xs) i) M)
theorem sw_0 {L : Nat} {xs : Nat → Int32} {i : Int32} {M : Mem} {x : Int32} (hx : x = 0) : Rto (C_law_H L xs) (39, loL i, [.int x], M, 0) (176, loL i, [], M, 0) := by
  subst hx
  exact Rto.run 1 (congrFun (congrFun (congrFun (congrFun bl_H_5 L) xs) i) M)
theorem sw_1 {L : Nat} {xs : Nat → Int32} {i : Int32} {M : Mem} {x : Int32} (hx : x = 1) : Rto (C_law_H L xs) (39, loL i, [.int x], M, 0) (244, loL i, [], M, 0) := by
  subst hx
  exact Rto.run 1 (congrFun (congrFun (congrFun (congrFun bl_H_6 L) xs) i) M)
theorem sw_2 {L : Nat} {xs : Nat → Int32} {i : Int32} {M : Mem} {x : Int32} (hx : x = 2) : Rto (C_law_H L xs) (39, loL i, [.int x], M, 0) (340, loL i, [], M, 0) := by
  subst hx
  exact Rto.run 1 (congrFun (congrFun (congrFun (congrFun bl_H_7 L) xs) i) M)
theorem sw_3 {L : Nat} {xs : Nat → Int32} {i : Int32} {M : Mem} {x : Int32} (hx : x = 3) : Rto (C_law_H L xs) (39, loL i, [.int x], M, 0) (428, loL i, [], M, 0) := by
  subst hx
  exact Rto.run 1 (congrFun (congrFun (congrFun (congrFun bl_H_8 L) xs) i) M)
theorem sw_4 {L : Nat} {xs : Nat → Int32} {i : Int32} {M : Mem} {x : Int32} (hx : x = 4) : Rto (C_law_H L xs) (39, loL i, [.int x], M, 0) (508, loL i, [], M, 0) := by
  subst hx
  exact Rto.run 1 (congrFun (congrFun (congrFun (congrFun bl_H_9 L) xs) i) M)
theorem sw_5 {L : Nat} {xs : Nat → Int32} {i : Int32} {M : Mem} {x : Int32} (hx : x = 5) : Rto (C_law_H L xs) (39, loL i, [.int x], M, 0) (588, loL i, [], M, 0) := by
  subst hx
  exact Rto.run 1 (congrFun (congrFun (congrFun (congrFun bl_H_10 L) xs) i) M)
theorem sw_6 {L : Nat} {xs : Nat → Int32} {i : Int32} {M : Mem} {x : Int32} (hx : x = 6) : Rto (C_law_H L xs) (39, loL i, [.int x], M, 0) (643, loL i, [], M, 0) := by
  subst hx
  exact Rto.run 1 (congrFun (congrFun (congrFun (congrFun bl_H_11 L) xs) i) M)
theorem sw_7 {L : Nat} {xs : Nat → Int32} {i : Int32} {M : Mem} {x : Int32} (hx : x = 7) : Rto (C_law_H L xs) (39, loL i, [.int x], M, 0) (723, loL i, [], M, 0) := by
  subst hx
  exact Rto.run 1 (congrFun (congrFun (congrFun (congrFun bl_H_12 L) xs) i) M)
theorem sw_8 {L : Nat} {xs : Nat → Int32} {i : Int32} {M : Mem} {x : Int32} (hx : x = 8) : Rto (C_law_H L xs) (39, loL i, [.int x], M, 0) (802, loL i, [], M, 0) := by
  subst hx
  exact Rto.run 1 (congrFun (congrFun (congrFun (congrFun bl_H_13 L) xs) i) M)
theorem sw_9 {L : Nat} {xs : Nat → Int32} {i : Int32} {M : Mem} {x : Int32} (hx : x = 9) : Rto (C_law_H L xs) (39, loL i, [.int x], M, 0) (870, loL i, [], M, 0) := by
  subst hx
  exact Rto.run 1 (congrFun (congrFun (congrFun (congrFun bl_H_14 L) xs) i) M)
theorem sw_10 {L : Nat} {xs : Nat → Int32} {i : Int32} {M : Mem} {x : Int32} (hx : x = 10) : Rto (C_law_H L xs) (39, loL i, [.int x], M, 0) (938, loL i, [], M, 0) := by
  subst hx
  exact Rto.run 1 (congrFun (congrFun (congrFun (congrFun bl_H_15 L) xs) i) M)
theorem sw_11 {L : Nat} {xs : Nat → Int32} {i : Int32} {M : Mem} {x : Int32} (hx : x = 11) : Rto (C_law_H L xs) (39, loL i, [.int x], M, 0) (993, loL i, [], M, 0) := by
  subst hx
  exact Rto.run 1 (congrFun (congrFun (congrFun (congrFun bl_H_16 L) xs) i) M)
theorem sw_12 {L : Nat} {xs : Nat → Int32} {i : Int32} {M : Mem} {x : Int32} (hx : x = 12) : Rto (C_law_H L xs) (39, loL i, [.int x], M, 0) (1061, loL i, [], M, 0) := by
  subst hx
  exact Rto.run 1 (congrFun (congrFun (congrFun (congrFun bl_H_17 L) xs) i) M)
theorem sw_13 {L : Nat} {xs : Nat → Int32} {i : Int32} {M : Mem} {x : Int32} (hx : x = 13) : Rto (C_law_H L xs) (39, loL i, [.int x], M, 0) (1141, loL i, [], M, 0) := by
  subst hx
  exact Rto.run 1 (congrFun (congrFun (congrFun (congrFun bl_H_18 L) xs) i) M)
theorem sw_14 {L : Nat} {xs : Nat → Int32} {i : Int32} {M : Mem} {x : Int32} (hx : x = 14) : Rto (C_law_H L xs) (39, loL i, [.int x], M, 0) (1208, loL i, [], M, 0) := by
  subst hx
  exact Rto.run 1 (congrFun (congrFun (congrFun (congrFun bl_H_19 L) xs) i) M)
theorem sw_15 {L : Nat} {xs : Nat → Int32} {i : Int32} {M : Mem} {x : Int32} (hx : x = 15) : Rto (C_law_H L xs) (39, loL i, [.int x], M, 0) (1275, loL i, [], M, 0) := by
  subst hx
  exact Rto.run 1 (congrFun (congrFun (congrFun (congrFun bl_H_20 L) xs) i) M)
theorem sw_16 {L : Nat} {xs : Nat → Int32} {i : Int32} {M : Mem} {x : Int32} (hx : x = 16) : Rto (C_law_H L xs) (39, loL i, [.int x], M, 0) (1331, loL i, [], M, 0) := by
  subst hx
  exact Rto.run 1 (congrFun (congrFun (congrFun (congrFun bl_H_21 L) xs) i) M)
theorem sw_17 {L : Nat} {xs : Nat → Int32} {i : Int32} {M : Mem} {x : Int32} (hx : x = 17) : Rto (C_law_H L xs) (39, loL i, [.int x], M, 0) (1386, loL i, [], M, 0) := by
  subst hx
  exact Rto.run 1 (congrFun (congrFun (congrFun (congrFun bl_H_22 L) xs) i) M)
theorem sw_18 {L : Nat} {xs : Nat → Int32} {i : Int32} {M : Mem} {x : Int32} (hx : x = 18) : Rto (C_law_H L xs) (39, loL i, [.int x], M, 0) (1478, loL i, [], M, 0) := by
  subst hx
  exact Rto.run 1 (congrFun (congrFun (congrFun (congrFun bl_H_23 L) xs) i) M)
theorem sw_19 {L : Nat} {xs : Nat → Int32} {i : Int32} {M : Mem} {x : Int32} (hx : x = 19) : Rto (C_law_H L xs) (39, loL i, [.int x], M, 0) (1558, loL i, [], M, 0) := by
  subst hx
  exact Rto.run 1 (congrFun (congrFun (congrFun (congrFun bl_H_24 L) xs) i) M)
theorem sw_20 {L : Nat} {xs : Nat → Int32} {i : Int32} {M : Mem} {x : Int32} (hx : x = 20) : Rto (C_law_H L xs) (39, loL i, [.int x], M, 0) (1633, loL i, [], M, 0) := by
  subst hx
  exact Rto.run 1 (congrFun (congrFun (congrFun (congrFun bl_H_25 L) xs) i) M)
theorem sw_21 {L : Nat} {xs : Nat → Int32} {i : Int32} {M : Mem} {x : Int32} (hx : x = 21) : Rto (C_law_H L xs) (39, loL i, [.int x], M, 0) (1700, loL i, [], M, 0) := by
  subst hx
  exact Rto.run 1 (congrFun (congrFun (congrFun (congrFun bl_H_26 L) xs) i) M)
theorem sw_22 {L : Nat} {xs : Nat → Int32} {i : Int32} {M : Mem} {x : Int32} (hx : x = 22) : Rto (C_law_H L xs) (39, loL i, [.int x], M, 0) (1767, loL i, [], M, 0) := by
  subst hx
  exact Rto.run 1 (congrFun (congrFun (congrFun (congrFun bl_H_27 L) xs) i) M)
theorem sw_23 {L : Nat} {xs : Nat → Int32} {i : Int32} {M : Mem} {x : Int32} (hx : x = 23) : Rto (C_law_H L xs) (39, loL i, [.int x], M, 0) (1866, loL i, [], M, 0) := by
  subst hx
  exact Rto.run 1 (congrFun (congrFun (congrFun (congrFun bl_H_28 L) xs) i) M)
theorem sw_24 {L : Nat} {xs : Nat → Int32} {i : Int32} {M : Mem} {x : Int32} (hx : x = 24) : Rto (C_law_H L xs) (39, loL i, [.int x], M, 0) (1922, loL i, [], M, 0) := by
  subst hx
  exact Rto.run 1 (congrFun (congrFun (congrFun (congrFun bl_H_29 L) xs) i) M)
theorem sw_25 {L : Nat} {xs : Nat → Int32} {i : Int32} {M : Mem} {x : Int32} (hx : x = 25) : Rto (C_law_H L xs) (39, loL i, [.int x], M, 0) (1935, loL i, [], M, 0) := by
  subst hx
  exact Rto.run 1 (congrFun (congrFun (congrFun (congrFun bl_H_30 L) xs) i) M)
theorem sw_26 {L : Nat} {xs : Nat → Int32} {i : Int32} {M : Mem} {x : Int32} (hx : x = 26) : Rto (C_law_H L xs) (39, loL i, [.int x], M, 0) (1948, loL i, [], M, 0) := by
  subst hx
  exact Rto.run 1 (congrFun (congrFun (congrFun (congrFun bl_H_31 L) xs) i) M)
theorem sw_27 {L : Nat} {xs : Nat → Int32} {i : Int32} {M : Mem} {x : Int32} (hx : x = 27) : Rto (C_law_H L xs) (39, loL i, [.int x], M, 0) (1992, loL i, [], M, 0) := by
  subst hx
  exact Rto.run 1 (congrFun (congrFun (congrFun (congrFun bl_H_32 L) xs) i) M)
theorem sw_28 {L : Nat} {xs : Nat → Int32} {i : Int32} {M : Mem} {x : Int32} (hx : x = 28) : Rto (C_law_H L xs) (39, loL i, [.int x], M, 0) (2040, loL i, [], M, 0) := by
  subst hx
  exact Rto.run 1 (congrFun (congrFun (congrFun (congrFun bl_H_33 L) xs) i) M)
theorem sw_29 {L : Nat} {xs : Nat → Int32} {i : Int32} {M : Mem} {x : Int32} (hx : x = 29) : Rto (C_law_H L xs) (39, loL i, [.int x], M, 0) (2108, loL i, [], M, 0) := by
  subst hx
  exact Rto.run 1 (congrFun (congrFun (congrFun (congrFun bl_H_34 L) xs) i) M)
theorem sw_30 {L : Nat} {xs : Nat → Int32} {i : Int32} {M : Mem} {x : Int32} (hx : x = 30) : Rto (C_law_H L xs) (39, loL i, [.int x], M, 0) (2188, loL i, [], M, 0) := by
  subst hx
  exact Rto.run 1 (congrFun (congrFun (congrFun (congrFun bl_H_35 L) xs) i) M)
theorem sw_d {L : Nat} {xs : Nat → Int32} {i : Int32} {M : Mem} {x : Int32} (h0 : ¬ x = 0) (h1 : ¬ x = 1) (h2 : ¬ x = 2) (h3 : ¬ x = 3) (h4 : ¬ x = 4) (h5 : ¬ x = 5) (h6 : ¬ x = 6) (h7 : ¬ x = 7) (h8 : ¬ x = 8) (h9 : ¬ x = 9) (h10 : ¬ x = 10) (h11 : ¬ x = 11) (h12 : ¬ x = 12) (h13 : ¬ x = 13) (h14 : ¬ x = 14) (h15 : ¬ x = 15) (h16 : ¬ x = 16) (h17 : ¬ x = 17) (h18 : ¬ x = 18) (h19 : ¬ x = 19) (h20 : ¬ x = 20) (h21 : ¬ x = 21) (h22 : ¬ x = 22) (h23 : ¬ x = 23) (h24 : ¬ x = 24) (h25 : ¬ x = 25) (h26 : ¬ x = 26) (h27 : ¬ x = 27) (h28 : ¬ x = 28) (h29 : ¬ x = 29) (h30 : ¬ x = 30) : Rto (C_law_H L xs) (39, loL i, [.int x], M, 0) (2244, loL i, [], M, 0) := by
  exact Rto.run 1 (run_tsw (q := 2244) rfl rfl (tsw_out (by have e0 : x.toInt ≠ 0 := fun e => h0 (Int32.toInt_inj.mp (e.trans (by decide))); have e1 : x.toInt ≠ 1 := fun e => h1 (Int32.toInt_inj.mp (e.trans (by decide))); have e2 : x.toInt ≠ 2 := fun e => h2 (Int32.toInt_inj.mp (e.trans (by decide))); have e3 : x.toInt ≠ 3 := fun e => h3 (Int32.toInt_inj.mp (e.trans (by decide))); have e4 : x.toInt ≠ 4 := fun e => h4 (Int32.toInt_inj.mp (e.trans (by decide))); have e5 : x.toInt ≠ 5 := fun e => h5 (Int32.toInt_inj.mp (e.trans (by decide))); have e6 : x.toInt ≠ 6 := fun e => h6 (Int32.toInt_inj.mp (e.trans (by decide))); have e7 : x.toInt ≠ 7 := fun e => h7 (Int32.toInt_inj.mp (e.trans (by decide))); have e8 : x.toInt ≠ 8 := fun e => h8 (Int32.toInt_inj.mp (e.trans (by decide))); have e9 : x.toInt ≠ 9 := fun e => h9 (Int32.toInt_inj.mp (e.trans (by decide))); have e10 : x.toInt ≠ 10 := fun e => h10 (Int32.toInt_inj.mp (e.trans (by decide))); have e11 : x.toInt ≠ 11 := fun e => h11 (Int32.toInt_inj.mp (e.trans (by decide))); have e12 : x.toInt ≠ 12 := fun e => h12 (Int32.toInt_inj.mp (e.trans (by decide))); have e13 : x.toInt ≠ 13 := fun e => h13 (Int32.toInt_inj.mp (e.trans (by decide))); have e14 : x.toInt ≠ 14 := fun e => h14 (Int32.toInt_inj.mp (e.trans (by decide))); have e15 : x.toInt ≠ 15 := fun e => h15 (Int32.toInt_inj.mp (e.trans (by decide))); have e16 : x.toInt ≠ 16 := fun e => h16 (Int32.toInt_inj.mp (e.trans (by decide))); have e17 : x.toInt ≠ 17 := fun e => h17 (Int32.toInt_inj.mp (e.trans (by decide))); have e18 : x.toInt ≠ 18 := fun e => h18 (Int32.toInt_inj.mp (e.trans (by decide))); have e19 : x.toInt ≠ 19 := fun e => h19 (Int32.toInt_inj.mp (e.trans (by decide))); have e20 : x.toInt ≠ 20 := fun e => h20 (Int32.toInt_inj.mp (e.trans (by decide))); have e21 : x.toInt ≠ 21 := fun e => h21 (Int32.toInt_inj.mp (e.trans (by decide))); have e22 : x.toInt ≠ 22 := fun e => h22 (Int32.toInt_inj.mp (e.trans (by decide))); have e23 : x.toInt ≠ 23 := fun e => h23 (Int32.toInt_inj.mp (e.trans (by decide))); have e24 : x.toInt ≠ 24 := fun e => h24 (Int32.toInt_inj.mp (e.trans (by decide))); have e25 : x.toInt ≠ 25 := fun e => h25 (Int32.toInt_inj.mp (e.trans (by decide))); have e26 : x.toInt ≠ 26 := fun e => h26 (Int32.toInt_inj.mp (e.trans (by decide))); have e27 : x.toInt ≠ 27 := fun e => h27 (Int32.toInt_inj.mp (e.trans (by decide))); have e28 : x.toInt ≠ 28 := fun e => h28 (Int32.toInt_inj.mp (e.trans (by decide))); have e29 : x.toInt ≠ 29 := fun e => h29 (Int32.toInt_inj.mp (e.trans (by decide))); have e30 : x.toInt ≠ 30 := fun e => h30 (Int32.toInt_inj.mp (e.trans (by decide))); omega) rfl rfl))
