/-! THE LAW: its tables, its calls' contracts, root -/
def fl_L : List (Nat × Nat × Nat) := []
theorem flk_L : ∀ e ∈ fl_L, fldb RL e = true := fun e h => absurd h List.not_mem_nil
def in_L : List (Nat × Int32) := [(126, 2147483647), (232, 46656), (233, -7000003)]
theorem ink_L : ∀ e ∈ in_L, Cond.constant RL e.1 e.2 ∈ TB := by decide +kernel
def lg_L : List (Nat × Int64) := [(116, -7000001), (120, -7000002), (124, -7000003), (127, 9223372036854775807), (129, -1), (131, -9223372036854775808), (133, 37), (139, 7), (141, 9), (143, 10000), (145, 9973), (147, 5), (149, 6), (159, 22), (161, 126), (163, 127), (165, 104), (167, 3), (169, 105), (171, 81), (173, 8), (175, 2), (177, 52), (179, 28), (181, 29), (186, 64), (188, 10), (190, 11), (208, 69), (210, 21), (212, 25), (214, 27), (216, 14), (218, 13), (220, 12), (222, 42), (224, 4), (226, 16), (228, 18), (230, 68719476735), (237, 2654435761)]
theorem lgk_L : ∀ e ∈ lg_L, Cond.constantLong RL e.1 e.2 ∈ TB := by decide +kernel
theorem CallOK.up {own : String} {cs : List Nat} {d d' : Nat} {e : Nat × CallE} (h : CallOK own cs d e) (hd : d ≤ d') : CallOK own cs d' e := by
  rcases h with ⟨h1, h2, h3, h4, h5, h6⟩ | ⟨y, cc, maxL, ret, hh, dY, h1, h2, h3⟩
  · exact Or.inl ⟨h1, h2, h3, h4, Nat.le_trans h5 hd, h6⟩
  · exact Or.inr ⟨y, cc, maxL, ret, hh, dY, h1, Nat.le_trans h2 hd, h3⟩
/-- lists of calls that go with each other -/
def SimL : List (Nat × CallE) → List (Nat × Call2) → Prop
  | [], [] => True
  | a :: r, b :: q => (a.1 = b.1 ∧ a.2.1 = b.2.1 ∧ a.2.2.1 = b.2.2.1 ∧ a.2.2.2.1 = b.2.2.2.1 ∧ a.2.2.2.2.1 = b.2.2.2.2.1 ∧ Sim a.2.2.2.2.2 b.2.2.2.2.2) ∧ SimL r q
  | _, _ => False
theorem Sims.nil : SimL [] [] := trivial
theorem Sims.cons {i kd ci na mc : Nat} {f : Fn} {g : Fn2} {r : List (Nat × CallE)} {q : List (Nat × Call2)} (h : Sim f g) (t : SimL r q) : SimL ((i, kd, ci, na, mc, f) :: r) ((i, kd, ci, na, mc, g) :: q) := ⟨⟨rfl, rfl, rfl, rfl, rfl, h⟩, t⟩
theorem calls_sim : ∀ {r : List (Nat × CallE)} {q : List (Nat × Call2)}, SimL r q → ∀ j e, lk q j = some e → ∃ f, lk r j = some (e.1, e.2.1, e.2.2.1, e.2.2.2.1, f) ∧ Sim f e.2.2.2.2
  | [], [], _, j, e, h => by cases h
  | [], b :: q, h, _, _, _ => h.elim
  | a :: r, [], h, _, _, _ => h.elim
  | (i, kd, ci, na, mc, f) :: r, (i', kd', ci', na', mc', g) :: q, h, j, e, he => by
    obtain ⟨⟨h1, h2, h3, h4, h5, h6⟩, ht⟩ := h
    dsimp only at h1 h2 h3 h4 h5 h6
    subst h1; subst h2; subst h3; subst h4; subst h5
    unfold lk at he ⊢
    dsimp only at he ⊢
    cases hb : Nat.beq i j with
    | true =>
      rw [hb] at he
      cases he
      exact ⟨f, rfl, h6⟩
    | false =>
      rw [hb] at he
      exact calls_sim ht j e he
theorem v_code_Sumsetry_root__II_V : Cond.code yX7_root cX7_root 3 none ∈ TB := tb_i 694 (by decide +kernel) (by rfl)
theorem v_initialized_Sumsetry : Cond.initialized RX7 ∈ TB := tb_i 20 (by decide +kernel) (by rfl)
theorem v_methodLink_SumsetryLaw_7 : Cond.methodLink RL 7 yX7_root ∈ TB := tb_i 691 (by decide +kernel) (by rfl)
theorem v_instanceMethod_Sumsetry_root__II_V : Cond.instanceMethod yX7_root ∈ TB := tb_i 692 (by decide +kernel) (by rfl)
theorem v_selects_Sumsetry_root__II_V : Cond.selects yX7_root.cls yX7_root yX7_root ∈ TB := tb_i 693 (by decide +kernel) (by rfl)
theorem v_code_Sumsetry_group__II_I : Cond.code yX7_group cX7_group 3 (some .int) ∈ TB := tb_i 209 (by decide +kernel) (by rfl)
theorem v_methodLink_SumsetryLaw_13 : Cond.methodLink RL 13 yX7_group ∈ TB := tb_i 206 (by decide +kernel) (by rfl)
theorem v_instanceMethod_Sumsetry_group__II_I : Cond.instanceMethod yX7_group ∈ TB := tb_i 207 (by decide +kernel) (by rfl)
theorem v_selects_Sumsetry_group__II_I : Cond.selects yX7_group.cls yX7_group yX7_group ∈ TB := tb_i 208 (by decide +kernel) (by rfl)
theorem v_code_Sumsetry_add__IIZ_I : Cond.code yX7_add cX7_add 4 (some .int) ∈ TB := tb_i 485 (by decide +kernel) (by rfl)
theorem v_methodLink_SumsetryLaw_17 : Cond.methodLink RL 17 yX7_add ∈ TB := tb_i 482 (by decide +kernel) (by rfl)
theorem v_instanceMethod_Sumsetry_add__IIZ_I : Cond.instanceMethod yX7_add ∈ TB := tb_i 483 (by decide +kernel) (by rfl)
theorem v_selects_Sumsetry_add__IIZ_I : Cond.selects yX7_add.cls yX7_add yX7_add ∈ TB := tb_i 484 (by decide +kernel) (by rfl)
theorem v_code_Sumsetry_set__J_I : Cond.code yX7_set cX7_set 3 (some .int) ∈ TB := tb_i 496 (by decide +kernel) (by rfl)
theorem v_methodLink_SumsetryLaw_21 : Cond.methodLink RL 21 yX7_set ∈ TB := tb_i 493 (by decide +kernel) (by rfl)
theorem v_instanceMethod_Sumsetry_set__J_I : Cond.instanceMethod yX7_set ∈ TB := tb_i 494 (by decide +kernel) (by rfl)
theorem v_selects_Sumsetry_set__J_I : Cond.selects yX7_set.cls yX7_set yX7_set ∈ TB := tb_i 495 (by decide +kernel) (by rfl)
theorem v_code_Sumsetry_combine__III_I : Cond.code yX7_combine cX7_combine 4 (some .int) ∈ TB := tb_i 525 (by decide +kernel) (by rfl)
theorem v_methodLink_SumsetryLaw_25 : Cond.methodLink RL 25 yX7_combine ∈ TB := tb_i 522 (by decide +kernel) (by rfl)
theorem v_instanceMethod_Sumsetry_combine__III_I : Cond.instanceMethod yX7_combine ∈ TB := tb_i 523 (by decide +kernel) (by rfl)
theorem v_selects_Sumsetry_combine__III_I : Cond.selects yX7_combine.cls yX7_combine yX7_combine ∈ TB := tb_i 524 (by decide +kernel) (by rfl)
theorem v_code_Sumsetry_move__III_I : Cond.code yX7_move cX7_move 4 (some .int) ∈ TB := tb_i 539 (by decide +kernel) (by rfl)
theorem v_methodLink_SumsetryLaw_29 : Cond.methodLink RL 29 yX7_move ∈ TB := tb_i 536 (by decide +kernel) (by rfl)
theorem v_instanceMethod_Sumsetry_move__III_I : Cond.instanceMethod yX7_move ∈ TB := tb_i 537 (by decide +kernel) (by rfl)
theorem v_selects_Sumsetry_move__III_I : Cond.selects yX7_move.cls yX7_move yX7_move ∈ TB := tb_i 538 (by decide +kernel) (by rfl)
theorem v_code_Sumsetry_elements__I_J : Cond.code yX7_elements cX7_elements 2 (some .long) ∈ TB := tb_i 293 (by decide +kernel) (by rfl)
theorem v_methodLink_SumsetryLaw_32 : Cond.methodLink RL 32 yX7_elements ∈ TB := tb_i 290 (by decide +kernel) (by rfl)
theorem v_instanceMethod_Sumsetry_elements__I_J : Cond.instanceMethod yX7_elements ∈ TB := tb_i 291 (by decide +kernel) (by rfl)
theorem v_selects_Sumsetry_elements__I_J : Cond.selects yX7_elements.cls yX7_elements yX7_elements ∈ TB := tb_i 292 (by decide +kernel) (by rfl)
theorem v_code_Sumsetry_ways__III_I : Cond.code yX7_ways cX7_ways 4 (some .int) ∈ TB := tb_i 548 (by decide +kernel) (by rfl)
theorem v_methodLink_SumsetryLaw_36 : Cond.methodLink RL 36 yX7_ways ∈ TB := tb_i 545 (by decide +kernel) (by rfl)
theorem v_instanceMethod_Sumsetry_ways__III_I : Cond.instanceMethod yX7_ways ∈ TB := tb_i 546 (by decide +kernel) (by rfl)
theorem v_selects_Sumsetry_ways__III_I : Cond.selects yX7_ways.cls yX7_ways yX7_ways ∈ TB := tb_i 547 (by decide +kernel) (by rfl)
theorem v_code_Sumsetry_popular__III_J : Cond.code yX7_popular cX7_popular 7 (some .long) ∈ TB := tb_i 552 (by decide +kernel) (by rfl)
theorem v_methodLink_SumsetryLaw_39 : Cond.methodLink RL 39 yX7_popular ∈ TB := tb_i 549 (by decide +kernel) (by rfl)
theorem v_instanceMethod_Sumsetry_popular__III_J : Cond.instanceMethod yX7_popular ∈ TB := tb_i 550 (by decide +kernel) (by rfl)
theorem v_selects_Sumsetry_popular__III_J : Cond.selects yX7_popular.cls yX7_popular yX7_popular ∈ TB := tb_i 551 (by decide +kernel) (by rfl)
theorem v_code_Sumsetry_energy__II_I : Cond.code yX7_energy cX7_energy 6 (some .int) ∈ TB := tb_i 321 (by decide +kernel) (by rfl)
theorem v_methodLink_SumsetryLaw_43 : Cond.methodLink RL 43 yX7_energy ∈ TB := tb_i 318 (by decide +kernel) (by rfl)
theorem v_instanceMethod_Sumsetry_energy__II_I : Cond.instanceMethod yX7_energy ∈ TB := tb_i 319 (by decide +kernel) (by rfl)
theorem v_selects_Sumsetry_energy__II_I : Cond.selects yX7_energy.cls yX7_energy yX7_energy ∈ TB := tb_i 320 (by decide +kernel) (by rfl)
theorem v_code_Sumsetry_energyAnew__II_I : Cond.code yX7_energyAnew cX7_energyAnew 5 (some .int) ∈ TB := tb_i 364 (by decide +kernel) (by rfl)
theorem v_methodLink_SumsetryLaw_46 : Cond.methodLink RL 46 yX7_energyAnew ∈ TB := tb_i 361 (by decide +kernel) (by rfl)
theorem v_instanceMethod_Sumsetry_energyAnew__II_I : Cond.instanceMethod yX7_energyAnew ∈ TB := tb_i 362 (by decide +kernel) (by rfl)
theorem v_selects_Sumsetry_energyAnew__II_I : Cond.selects yX7_energyAnew.cls yX7_energyAnew yX7_energyAnew ∈ TB := tb_i 363 (by decide +kernel) (by rfl)
theorem v_code_Sumsetry_stabilizer__I_J : Cond.code yX7_stabilizer cX7_stabilizer 2 (some .long) ∈ TB := tb_i 372 (by decide +kernel) (by rfl)
theorem v_methodLink_SumsetryLaw_49 : Cond.methodLink RL 49 yX7_stabilizer ∈ TB := tb_i 369 (by decide +kernel) (by rfl)
theorem v_instanceMethod_Sumsetry_stabilizer__I_J : Cond.instanceMethod yX7_stabilizer ∈ TB := tb_i 370 (by decide +kernel) (by rfl)
theorem v_selects_Sumsetry_stabilizer__I_J : Cond.selects yX7_stabilizer.cls yX7_stabilizer yX7_stabilizer ∈ TB := tb_i 371 (by decide +kernel) (by rfl)
theorem v_code_Sumsetry_excess__II_I : Cond.code yX7_excess cX7_excess 7 (some .int) ∈ TB := tb_i 380 (by decide +kernel) (by rfl)
theorem v_methodLink_SumsetryLaw_52 : Cond.methodLink RL 52 yX7_excess ∈ TB := tb_i 377 (by decide +kernel) (by rfl)
theorem v_instanceMethod_Sumsetry_excess__II_I : Cond.instanceMethod yX7_excess ∈ TB := tb_i 378 (by decide +kernel) (by rfl)
theorem v_selects_Sumsetry_excess__II_I : Cond.selects yX7_excess.cls yX7_excess yX7_excess ∈ TB := tb_i 379 (by decide +kernel) (by rfl)
theorem v_code_Sumsetry_slack__III_I : Cond.code yX7_slack cX7_slack 10 (some .int) ∈ TB := tb_i 389 (by decide +kernel) (by rfl)
theorem v_methodLink_SumsetryLaw_55 : Cond.methodLink RL 55 yX7_slack ∈ TB := tb_i 386 (by decide +kernel) (by rfl)
theorem v_instanceMethod_Sumsetry_slack__III_I : Cond.instanceMethod yX7_slack ∈ TB := tb_i 387 (by decide +kernel) (by rfl)
theorem v_selects_Sumsetry_slack__III_I : Cond.selects yX7_slack.cls yX7_slack yX7_slack ∈ TB := tb_i 388 (by decide +kernel) (by rfl)
theorem v_code_Sumsetry_cover__II_J : Cond.code yX7_cover cX7_cover 10 (some .long) ∈ TB := tb_i 398 (by decide +kernel) (by rfl)
theorem v_methodLink_SumsetryLaw_58 : Cond.methodLink RL 58 yX7_cover ∈ TB := tb_i 395 (by decide +kernel) (by rfl)
theorem v_instanceMethod_Sumsetry_cover__II_J : Cond.instanceMethod yX7_cover ∈ TB := tb_i 396 (by decide +kernel) (by rfl)
theorem v_selects_Sumsetry_cover__II_J : Cond.selects yX7_cover.cls yX7_cover yX7_cover ∈ TB := tb_i 397 (by decide +kernel) (by rfl)
theorem v_code_Sumsetry_sums__II_J : Cond.code yX7_sums cX7_sums 6 (some .long) ∈ TB := tb_i 407 (by decide +kernel) (by rfl)
theorem v_methodLink_SumsetryLaw_62 : Cond.methodLink RL 62 yX7_sums ∈ TB := tb_i 404 (by decide +kernel) (by rfl)
theorem v_instanceMethod_Sumsetry_sums__II_J : Cond.instanceMethod yX7_sums ∈ TB := tb_i 405 (by decide +kernel) (by rfl)
theorem v_selects_Sumsetry_sums__II_J : Cond.selects yX7_sums.cls yX7_sums yX7_sums ∈ TB := tb_i 406 (by decide +kernel) (by rfl)
theorem v_code_Sumsetry_order__I_I : Cond.code yX7_order cX7_order 2 (some .int) ∈ TB := tb_i 412 (by decide +kernel) (by rfl)
theorem v_methodLink_SumsetryLaw_65 : Cond.methodLink RL 65 yX7_order ∈ TB := tb_i 409 (by decide +kernel) (by rfl)
theorem v_instanceMethod_Sumsetry_order__I_I : Cond.instanceMethod yX7_order ∈ TB := tb_i 410 (by decide +kernel) (by rfl)
theorem v_selects_Sumsetry_order__I_I : Cond.selects yX7_order.cls yX7_order yX7_order ∈ TB := tb_i 411 (by decide +kernel) (by rfl)
theorem v_code_Sumsetry_essential__I_J : Cond.code yX7_essential cX7_essential 7 (some .long) ∈ TB := tb_i 420 (by decide +kernel) (by rfl)
theorem v_methodLink_SumsetryLaw_69 : Cond.methodLink RL 69 yX7_essential ∈ TB := tb_i 417 (by decide +kernel) (by rfl)
theorem v_instanceMethod_Sumsetry_essential__I_J : Cond.instanceMethod yX7_essential ∈ TB := tb_i 418 (by decide +kernel) (by rfl)
theorem v_selects_Sumsetry_essential__I_J : Cond.selects yX7_essential.cls yX7_essential yX7_essential ∈ TB := tb_i 419 (by decide +kernel) (by rfl)
theorem v_code_Sumsetry_image__IIII_I : Cond.code yX7_image cX7_image 5 (some .int) ∈ TB := tb_i 557 (by decide +kernel) (by rfl)
theorem v_methodLink_SumsetryLaw_72 : Cond.methodLink RL 72 yX7_image ∈ TB := tb_i 554 (by decide +kernel) (by rfl)
theorem v_instanceMethod_Sumsetry_image__IIII_I : Cond.instanceMethod yX7_image ∈ TB := tb_i 555 (by decide +kernel) (by rfl)
theorem v_selects_Sumsetry_image__IIII_I : Cond.selects yX7_image.cls yX7_image yX7_image ∈ TB := tb_i 556 (by decide +kernel) (by rfl)
theorem v_code_Sumsetry_maps__III_I : Cond.code yX7_maps cX7_maps 4 (some .int) ∈ TB := tb_i 611 (by decide +kernel) (by rfl)
theorem v_methodLink_SumsetryLaw_76 : Cond.methodLink RL 76 yX7_maps ∈ TB := tb_i 608 (by decide +kernel) (by rfl)
theorem v_instanceMethod_Sumsetry_maps__III_I : Cond.instanceMethod yX7_maps ∈ TB := tb_i 609 (by decide +kernel) (by rfl)
theorem v_selects_Sumsetry_maps__III_I : Cond.selects yX7_maps.cls yX7_maps yX7_maps ∈ TB := tb_i 610 (by decide +kernel) (by rfl)
theorem v_code_Sumsetry_keeps__II_Z : Cond.code yX7_keeps cX7_keeps 3 (some .boolean) ∈ TB := tb_i 425 (by decide +kernel) (by rfl)
theorem v_methodLink_SumsetryLaw_79 : Cond.methodLink RL 79 yX7_keeps ∈ TB := tb_i 422 (by decide +kernel) (by rfl)
theorem v_instanceMethod_Sumsetry_keeps__II_Z : Cond.instanceMethod yX7_keeps ∈ TB := tb_i 423 (by decide +kernel) (by rfl)
theorem v_selects_Sumsetry_keeps__II_Z : Cond.selects yX7_keeps.cls yX7_keeps yX7_keeps ∈ TB := tb_i 424 (by decide +kernel) (by rfl)
theorem v_code_Sumsetry_greatest__II_J : Cond.code yX7_greatest cX7_greatest 3 (some .long) ∈ TB := tb_i 615 (by decide +kernel) (by rfl)
theorem v_methodLink_SumsetryLaw_83 : Cond.methodLink RL 83 yX7_greatest ∈ TB := tb_i 612 (by decide +kernel) (by rfl)
theorem v_instanceMethod_Sumsetry_greatest__II_J : Cond.instanceMethod yX7_greatest ∈ TB := tb_i 613 (by decide +kernel) (by rfl)
theorem v_selects_Sumsetry_greatest__II_J : Cond.selects yX7_greatest.cls yX7_greatest yX7_greatest ∈ TB := tb_i 614 (by decide +kernel) (by rfl)
theorem v_code_Sumsetry_greatestAnew__II_J : Cond.code yX7_greatestAnew cX7_greatestAnew 3 (some .long) ∈ TB := tb_i 643 (by decide +kernel) (by rfl)
theorem v_methodLink_SumsetryLaw_86 : Cond.methodLink RL 86 yX7_greatestAnew ∈ TB := tb_i 640 (by decide +kernel) (by rfl)
theorem v_instanceMethod_Sumsetry_greatestAnew__II_J : Cond.instanceMethod yX7_greatestAnew ∈ TB := tb_i 641 (by decide +kernel) (by rfl)
theorem v_selects_Sumsetry_greatestAnew__II_J : Cond.selects yX7_greatestAnew.cls yX7_greatestAnew yX7_greatestAnew ∈ TB := tb_i 642 (by decide +kernel) (by rfl)
theorem v_code_Sumsetry_wins__IJ_J : Cond.code yX7_wins cX7_wins 4 (some .long) ∈ TB := tb_i 651 (by decide +kernel) (by rfl)
theorem v_methodLink_SumsetryLaw_89 : Cond.methodLink RL 89 yX7_wins ∈ TB := tb_i 648 (by decide +kernel) (by rfl)
theorem v_instanceMethod_Sumsetry_wins__IJ_J : Cond.instanceMethod yX7_wins ∈ TB := tb_i 649 (by decide +kernel) (by rfl)
theorem v_selects_Sumsetry_wins__IJ_J : Cond.selects yX7_wins.cls yX7_wins yX7_wins ∈ TB := tb_i 650 (by decide +kernel) (by rfl)
theorem v_code_Sumsetry_put__I_I : Cond.code yX7_put cX7_put 2 (some .int) ∈ TB := tb_i 674 (by decide +kernel) (by rfl)
theorem v_methodLink_SumsetryLaw_93 : Cond.methodLink RL 93 yX7_put ∈ TB := tb_i 671 (by decide +kernel) (by rfl)
theorem v_instanceMethod_Sumsetry_put__I_I : Cond.instanceMethod yX7_put ∈ TB := tb_i 672 (by decide +kernel) (by rfl)
theorem v_selects_Sumsetry_put__I_I : Cond.selects yX7_put.cls yX7_put yX7_put ∈ TB := tb_i 673 (by decide +kernel) (by rfl)
theorem v_code_Sumsetry_constant___I : Cond.code yX7_constant cX7_constant 1 (some .int) ∈ TB := tb_i 683 (by decide +kernel) (by rfl)
theorem v_methodLink_SumsetryLaw_96 : Cond.methodLink RL 96 yX7_constant ∈ TB := tb_i 680 (by decide +kernel) (by rfl)
theorem v_instanceMethod_Sumsetry_constant___I : Cond.instanceMethod yX7_constant ∈ TB := tb_i 681 (by decide +kernel) (by rfl)
theorem v_selects_Sumsetry_constant___I : Cond.selects yX7_constant.cls yX7_constant yX7_constant ∈ TB := tb_i 682 (by decide +kernel) (by rfl)
theorem v_code_SumsetryLaw_root__LSumsetry_II_I : Cond.code yL_root cL_root 3 (some .int) ∈ TB := tb_i 690 (by decide +kernel) (by rfl)
theorem v_initialized_SumsetryLaw : Cond.initialized RL ∈ TB := tb_i 19 (by decide +kernel) (by rfl)
theorem v_methodLink_SumsetryLaw_100 : Cond.methodLink RL 100 yL_root ∈ TB := tb_i 688 (by decide +kernel) (by rfl)
theorem v_static_SumsetryLaw_root__LSumsetry_II_I : Cond.static yL_root ∈ TB := tb_i 689 (by decide +kernel) (by rfl)
theorem v_code_Sumsetry_transform__II_I : Cond.code yX7_transform cX7_transform 3 (some .int) ∈ TB := tb_i 712 (by decide +kernel) (by rfl)
theorem v_methodLink_SumsetryLaw_105 : Cond.methodLink RL 105 yX7_transform ∈ TB := tb_i 709 (by decide +kernel) (by rfl)
theorem v_instanceMethod_Sumsetry_transform__II_I : Cond.instanceMethod yX7_transform ∈ TB := tb_i 710 (by decide +kernel) (by rfl)
theorem v_selects_Sumsetry_transform__II_I : Cond.selects yX7_transform.cls yX7_transform yX7_transform ∈ TB := tb_i 711 (by decide +kernel) (by rfl)
theorem v_code_Sumsetry_waysAnew__III_I : Cond.code yX7_waysAnew cX7_waysAnew 4 (some .int) ∈ TB := tb_i 732 (by decide +kernel) (by rfl)
theorem v_methodLink_SumsetryLaw_108 : Cond.methodLink RL 108 yX7_waysAnew ∈ TB := tb_i 729 (by decide +kernel) (by rfl)
theorem v_instanceMethod_Sumsetry_waysAnew__III_I : Cond.instanceMethod yX7_waysAnew ∈ TB := tb_i 730 (by decide +kernel) (by rfl)
theorem v_selects_Sumsetry_waysAnew__III_I : Cond.selects yX7_waysAnew.cls yX7_waysAnew yX7_waysAnew ∈ TB := tb_i 731 (by decide +kernel) (by rfl)
theorem v_code_Sumsetry_of__I_I : Cond.code yX7_of cX7_of 2 (some .int) ∈ TB := tb_i 742 (by decide +kernel) (by rfl)
theorem v_methodLink_SumsetryLaw_111 : Cond.methodLink RL 111 yX7_of ∈ TB := tb_i 739 (by decide +kernel) (by rfl)
theorem v_instanceMethod_Sumsetry_of__I_I : Cond.instanceMethod yX7_of ∈ TB := tb_i 740 (by decide +kernel) (by rfl)
theorem v_selects_Sumsetry_of__I_I : Cond.selects yX7_of.cls yX7_of yX7_of ∈ TB := tb_i 741 (by decide +kernel) (by rfl)
theorem v_classLink_SumsetryLaw_114 : Cond.classLink RL 114 "java/lang/IndexOutOfBoundsException" ∈ TB := tb_i 479 (by decide +kernel) (by rfl)
theorem v_classLink_SumsetryLaw_118 : Cond.classLink RL 118 "java/lang/IllegalArgumentException" ∈ TB := tb_i 480 (by decide +kernel) (by rfl)
theorem v_classLink_SumsetryLaw_122 : Cond.classLink RL 122 "java/lang/IllegalStateException" ∈ TB := tb_i 481 (by decide +kernel) (by rfl)
theorem cl_7 : CallOK RL csF 7 (7, 2, 5, 3, 1, fn_X7_root) :=
  Or.inr ⟨yX7_root, cX7_root, 3, none, none, 6, ok_X7_root, by decide, by decide, v_code_Sumsetry_root__II_V, v_initialized_Sumsetry, ⟨by decide, by decide⟩, Or.inr (Or.inr ⟨rfl, rfl, show (parseMethodDescriptor yX7_root.desc).map (fun d => d.parameters.length + 1) = some 3 from by decide +kernel, v_methodLink_SumsetryLaw_7, v_instanceMethod_Sumsetry_root__II_V, v_selects_Sumsetry_root__II_V, ⟨_, rfl, rfl⟩⟩)⟩
theorem cl_13 : CallOK RL csF 7 (13, 2, 5, 3, 1, fn_X7_group) :=
  Or.inr ⟨yX7_group, cX7_group, 3, (some .int), none, 6, ok_X7_group, by decide, by decide, v_code_Sumsetry_group__II_I, v_initialized_Sumsetry, ⟨by decide, by decide⟩, Or.inr (Or.inr ⟨rfl, rfl, show (parseMethodDescriptor yX7_group.desc).map (fun d => d.parameters.length + 1) = some 3 from by decide +kernel, v_methodLink_SumsetryLaw_13, v_instanceMethod_Sumsetry_group__II_I, v_selects_Sumsetry_group__II_I, ⟨_, rfl, rfl⟩⟩)⟩
theorem cl_17 : CallOK RL csF 8 (17, 2, 5, 4, 2, fn_X7_add) :=
  Or.inr ⟨yX7_add, cX7_add, 4, (some .int), none, 7, ok_X7_add, by decide, by decide, v_code_Sumsetry_add__IIZ_I, v_initialized_Sumsetry, ⟨by decide, by decide⟩, Or.inr (Or.inr ⟨rfl, rfl, show (parseMethodDescriptor yX7_add.desc).map (fun d => d.parameters.length + 1) = some 4 from by decide +kernel, v_methodLink_SumsetryLaw_17, v_instanceMethod_Sumsetry_add__IIZ_I, v_selects_Sumsetry_add__IIZ_I, ⟨_, rfl, rfl⟩⟩)⟩
theorem cl_21 : CallOK RL csF 8 (21, 2, 5, 2, 1, fn_X7_set) :=
  Or.inr ⟨yX7_set, cX7_set, 3, (some .int), none, 7, ok_X7_set, by decide, by decide, v_code_Sumsetry_set__J_I, v_initialized_Sumsetry, ⟨by decide, by decide⟩, Or.inr (Or.inr ⟨rfl, rfl, show (parseMethodDescriptor yX7_set.desc).map (fun d => d.parameters.length + 1) = some 2 from by decide +kernel, v_methodLink_SumsetryLaw_21, v_instanceMethod_Sumsetry_set__J_I, v_selects_Sumsetry_set__J_I, ⟨_, rfl, rfl⟩⟩)⟩
theorem cl_25 : CallOK RL csF 8 (25, 2, 5, 4, 3, fn_X7_combine) :=
  Or.inr ⟨yX7_combine, cX7_combine, 4, (some .int), none, 7, ok_X7_combine, by decide, by decide, v_code_Sumsetry_combine__III_I, v_initialized_Sumsetry, ⟨by decide, by decide⟩, Or.inr (Or.inr ⟨rfl, rfl, show (parseMethodDescriptor yX7_combine.desc).map (fun d => d.parameters.length + 1) = some 4 from by decide +kernel, v_methodLink_SumsetryLaw_25, v_instanceMethod_Sumsetry_combine__III_I, v_selects_Sumsetry_combine__III_I, ⟨_, rfl, rfl⟩⟩)⟩
theorem cl_29 : CallOK RL csF 8 (29, 2, 5, 4, 3, fn_X7_move) :=
  Or.inr ⟨yX7_move, cX7_move, 4, (some .int), none, 7, ok_X7_move, by decide, by decide, v_code_Sumsetry_move__III_I, v_initialized_Sumsetry, ⟨by decide, by decide⟩, Or.inr (Or.inr ⟨rfl, rfl, show (parseMethodDescriptor yX7_move.desc).map (fun d => d.parameters.length + 1) = some 4 from by decide +kernel, v_methodLink_SumsetryLaw_29, v_instanceMethod_Sumsetry_move__III_I, v_selects_Sumsetry_move__III_I, ⟨_, rfl, rfl⟩⟩)⟩
theorem cl_32 : CallOK RL csF 8 (32, 2, 5, 2, 1, fn_X7_elements) :=
  Or.inr ⟨yX7_elements, cX7_elements, 2, (some .long), none, 7, ok_X7_elements, by decide, by decide, v_code_Sumsetry_elements__I_J, v_initialized_Sumsetry, ⟨by decide, by decide⟩, Or.inr (Or.inr ⟨rfl, rfl, show (parseMethodDescriptor yX7_elements.desc).map (fun d => d.parameters.length + 1) = some 2 from by decide +kernel, v_methodLink_SumsetryLaw_32, v_instanceMethod_Sumsetry_elements__I_J, v_selects_Sumsetry_elements__I_J, ⟨_, rfl, rfl⟩⟩)⟩
theorem cl_36 : CallOK RL csF 8 (36, 2, 5, 4, 3, fn_X7_ways) :=
  Or.inr ⟨yX7_ways, cX7_ways, 4, (some .int), none, 7, ok_X7_ways, by decide, by decide, v_code_Sumsetry_ways__III_I, v_initialized_Sumsetry, ⟨by decide, by decide⟩, Or.inr (Or.inr ⟨rfl, rfl, show (parseMethodDescriptor yX7_ways.desc).map (fun d => d.parameters.length + 1) = some 4 from by decide +kernel, v_methodLink_SumsetryLaw_36, v_instanceMethod_Sumsetry_ways__III_I, v_selects_Sumsetry_ways__III_I, ⟨_, rfl, rfl⟩⟩)⟩
theorem cl_39 : CallOK RL csF 8 (39, 2, 5, 4, 3, fn_X7_popular) :=
  Or.inr ⟨yX7_popular, cX7_popular, 7, (some .long), none, 7, ok_X7_popular, by decide, by decide, v_code_Sumsetry_popular__III_J, v_initialized_Sumsetry, ⟨by decide, by decide⟩, Or.inr (Or.inr ⟨rfl, rfl, show (parseMethodDescriptor yX7_popular.desc).map (fun d => d.parameters.length + 1) = some 4 from by decide +kernel, v_methodLink_SumsetryLaw_39, v_instanceMethod_Sumsetry_popular__III_J, v_selects_Sumsetry_popular__III_J, ⟨_, rfl, rfl⟩⟩)⟩
theorem cl_43 : CallOK RL csF 8 (43, 2, 5, 3, 2, fn_X7_energy) :=
  Or.inr ⟨yX7_energy, cX7_energy, 6, (some .int), none, 7, ok_X7_energy, by decide, by decide, v_code_Sumsetry_energy__II_I, v_initialized_Sumsetry, ⟨by decide, by decide⟩, Or.inr (Or.inr ⟨rfl, rfl, show (parseMethodDescriptor yX7_energy.desc).map (fun d => d.parameters.length + 1) = some 3 from by decide +kernel, v_methodLink_SumsetryLaw_43, v_instanceMethod_Sumsetry_energy__II_I, v_selects_Sumsetry_energy__II_I, ⟨_, rfl, rfl⟩⟩)⟩
theorem cl_46 : CallOK RL csF 8 (46, 2, 5, 3, 2, fn_X7_energyAnew) :=
  Or.inr ⟨yX7_energyAnew, cX7_energyAnew, 5, (some .int), none, 7, ok_X7_energyAnew, by decide, by decide, v_code_Sumsetry_energyAnew__II_I, v_initialized_Sumsetry, ⟨by decide, by decide⟩, Or.inr (Or.inr ⟨rfl, rfl, show (parseMethodDescriptor yX7_energyAnew.desc).map (fun d => d.parameters.length + 1) = some 3 from by decide +kernel, v_methodLink_SumsetryLaw_46, v_instanceMethod_Sumsetry_energyAnew__II_I, v_selects_Sumsetry_energyAnew__II_I, ⟨_, rfl, rfl⟩⟩)⟩
theorem cl_49 : CallOK RL csF 8 (49, 2, 5, 2, 1, fn_X7_stabilizer) :=
  Or.inr ⟨yX7_stabilizer, cX7_stabilizer, 2, (some .long), none, 7, ok_X7_stabilizer, by decide, by decide, v_code_Sumsetry_stabilizer__I_J, v_initialized_Sumsetry, ⟨by decide, by decide⟩, Or.inr (Or.inr ⟨rfl, rfl, show (parseMethodDescriptor yX7_stabilizer.desc).map (fun d => d.parameters.length + 1) = some 2 from by decide +kernel, v_methodLink_SumsetryLaw_49, v_instanceMethod_Sumsetry_stabilizer__I_J, v_selects_Sumsetry_stabilizer__I_J, ⟨_, rfl, rfl⟩⟩)⟩
theorem cl_52 : CallOK RL csF 8 (52, 2, 5, 3, 2, fn_X7_excess) :=
  Or.inr ⟨yX7_excess, cX7_excess, 7, (some .int), none, 7, ok_X7_excess, by decide, by decide, v_code_Sumsetry_excess__II_I, v_initialized_Sumsetry, ⟨by decide, by decide⟩, Or.inr (Or.inr ⟨rfl, rfl, show (parseMethodDescriptor yX7_excess.desc).map (fun d => d.parameters.length + 1) = some 3 from by decide +kernel, v_methodLink_SumsetryLaw_52, v_instanceMethod_Sumsetry_excess__II_I, v_selects_Sumsetry_excess__II_I, ⟨_, rfl, rfl⟩⟩)⟩
theorem cl_55 : CallOK RL csF 8 (55, 2, 5, 4, 3, fn_X7_slack) :=
  Or.inr ⟨yX7_slack, cX7_slack, 10, (some .int), none, 7, ok_X7_slack, by decide, by decide, v_code_Sumsetry_slack__III_I, v_initialized_Sumsetry, ⟨by decide, by decide⟩, Or.inr (Or.inr ⟨rfl, rfl, show (parseMethodDescriptor yX7_slack.desc).map (fun d => d.parameters.length + 1) = some 4 from by decide +kernel, v_methodLink_SumsetryLaw_55, v_instanceMethod_Sumsetry_slack__III_I, v_selects_Sumsetry_slack__III_I, ⟨_, rfl, rfl⟩⟩)⟩
theorem cl_58 : CallOK RL csF 8 (58, 2, 5, 3, 2, fn_X7_cover) :=
  Or.inr ⟨yX7_cover, cX7_cover, 10, (some .long), none, 7, ok_X7_cover, by decide, by decide, v_code_Sumsetry_cover__II_J, v_initialized_Sumsetry, ⟨by decide, by decide⟩, Or.inr (Or.inr ⟨rfl, rfl, show (parseMethodDescriptor yX7_cover.desc).map (fun d => d.parameters.length + 1) = some 3 from by decide +kernel, v_methodLink_SumsetryLaw_58, v_instanceMethod_Sumsetry_cover__II_J, v_selects_Sumsetry_cover__II_J, ⟨_, rfl, rfl⟩⟩)⟩
theorem cl_62 : CallOK RL csF 8 (62, 2, 5, 3, 2, fn_X7_sums) :=
  Or.inr ⟨yX7_sums, cX7_sums, 6, (some .long), none, 7, ok_X7_sums, by decide, by decide, v_code_Sumsetry_sums__II_J, v_initialized_Sumsetry, ⟨by decide, by decide⟩, Or.inr (Or.inr ⟨rfl, rfl, show (parseMethodDescriptor yX7_sums.desc).map (fun d => d.parameters.length + 1) = some 3 from by decide +kernel, v_methodLink_SumsetryLaw_62, v_instanceMethod_Sumsetry_sums__II_J, v_selects_Sumsetry_sums__II_J, ⟨_, rfl, rfl⟩⟩)⟩
theorem cl_65 : CallOK RL csF 8 (65, 2, 5, 2, 1, fn_X7_order) :=
  Or.inr ⟨yX7_order, cX7_order, 2, (some .int), none, 7, ok_X7_order, by decide, by decide, v_code_Sumsetry_order__I_I, v_initialized_Sumsetry, ⟨by decide, by decide⟩, Or.inr (Or.inr ⟨rfl, rfl, show (parseMethodDescriptor yX7_order.desc).map (fun d => d.parameters.length + 1) = some 2 from by decide +kernel, v_methodLink_SumsetryLaw_65, v_instanceMethod_Sumsetry_order__I_I, v_selects_Sumsetry_order__I_I, ⟨_, rfl, rfl⟩⟩)⟩
theorem cl_69 : CallOK RL csF 8 (69, 2, 5, 2, 1, fn_X7_essential) :=
  Or.inr ⟨yX7_essential, cX7_essential, 7, (some .long), none, 7, ok_X7_essential, by decide, by decide, v_code_Sumsetry_essential__I_J, v_initialized_Sumsetry, ⟨by decide, by decide⟩, Or.inr (Or.inr ⟨rfl, rfl, show (parseMethodDescriptor yX7_essential.desc).map (fun d => d.parameters.length + 1) = some 2 from by decide +kernel, v_methodLink_SumsetryLaw_69, v_instanceMethod_Sumsetry_essential__I_J, v_selects_Sumsetry_essential__I_J, ⟨_, rfl, rfl⟩⟩)⟩
theorem cl_72 : CallOK RL csF 16 (72, 2, 5, 5, 4, fn_X7_image) :=
  Or.inr ⟨yX7_image, cX7_image, 5, (some .int), none, 15, ok_X7_image, by decide, by decide, v_code_Sumsetry_image__IIII_I, v_initialized_Sumsetry, ⟨by decide, by decide⟩, Or.inr (Or.inr ⟨rfl, rfl, show (parseMethodDescriptor yX7_image.desc).map (fun d => d.parameters.length + 1) = some 5 from by decide +kernel, v_methodLink_SumsetryLaw_72, v_instanceMethod_Sumsetry_image__IIII_I, v_selects_Sumsetry_image__IIII_I, ⟨_, rfl, rfl⟩⟩)⟩
theorem cl_76 : CallOK RL csF 16 (76, 2, 5, 4, 3, fn_X7_maps) :=
  Or.inr ⟨yX7_maps, cX7_maps, 4, (some .int), none, 15, ok_X7_maps, by decide, by decide, v_code_Sumsetry_maps__III_I, v_initialized_Sumsetry, ⟨by decide, by decide⟩, Or.inr (Or.inr ⟨rfl, rfl, show (parseMethodDescriptor yX7_maps.desc).map (fun d => d.parameters.length + 1) = some 4 from by decide +kernel, v_methodLink_SumsetryLaw_76, v_instanceMethod_Sumsetry_maps__III_I, v_selects_Sumsetry_maps__III_I, ⟨_, rfl, rfl⟩⟩)⟩
theorem cl_79 : CallOK RL csF 8 (79, 2, 5, 3, 2, fn_X7_keeps) :=
  Or.inr ⟨yX7_keeps, cX7_keeps, 3, (some .boolean), none, 7, ok_X7_keeps, by decide, by decide, v_code_Sumsetry_keeps__II_Z, v_initialized_Sumsetry, ⟨by decide, by decide⟩, Or.inr (Or.inr ⟨rfl, rfl, show (parseMethodDescriptor yX7_keeps.desc).map (fun d => d.parameters.length + 1) = some 3 from by decide +kernel, v_methodLink_SumsetryLaw_79, v_instanceMethod_Sumsetry_keeps__II_Z, v_selects_Sumsetry_keeps__II_Z, ⟨_, rfl, rfl⟩⟩)⟩
theorem cl_83 : CallOK RL csF 24 (83, 2, 5, 3, 3, fn_X7_greatest) :=
  Or.inr ⟨yX7_greatest, cX7_greatest, 3, (some .long), none, 23, ok_X7_greatest, by decide, by decide, v_code_Sumsetry_greatest__II_J, v_initialized_Sumsetry, ⟨by decide, by decide⟩, Or.inr (Or.inr ⟨rfl, rfl, show (parseMethodDescriptor yX7_greatest.desc).map (fun d => d.parameters.length + 1) = some 3 from by decide +kernel, v_methodLink_SumsetryLaw_83, v_instanceMethod_Sumsetry_greatest__II_J, v_selects_Sumsetry_greatest__II_J, ⟨_, rfl, rfl⟩⟩)⟩
theorem cl_86 : CallOK RL csF 9 (86, 2, 5, 3, 3, fn_X7_greatestAnew) :=
  Or.inr ⟨yX7_greatestAnew, cX7_greatestAnew, 3, (some .long), none, 8, ok_X7_greatestAnew, by decide, by decide, v_code_Sumsetry_greatestAnew__II_J, v_initialized_Sumsetry, ⟨by decide, by decide⟩, Or.inr (Or.inr ⟨rfl, rfl, show (parseMethodDescriptor yX7_greatestAnew.desc).map (fun d => d.parameters.length + 1) = some 3 from by decide +kernel, v_methodLink_SumsetryLaw_86, v_instanceMethod_Sumsetry_greatestAnew__II_J, v_selects_Sumsetry_greatestAnew__II_J, ⟨_, rfl, rfl⟩⟩)⟩
theorem cl_89 : CallOK RL csF 10 (89, 2, 5, 3, 2, fn_X7_wins) :=
  Or.inr ⟨yX7_wins, cX7_wins, 4, (some .long), none, 9, ok_X7_wins, by decide, by decide, v_code_Sumsetry_wins__IJ_J, v_initialized_Sumsetry, ⟨by decide, by decide⟩, Or.inr (Or.inr ⟨rfl, rfl, show (parseMethodDescriptor yX7_wins.desc).map (fun d => d.parameters.length + 1) = some 3 from by decide +kernel, v_methodLink_SumsetryLaw_89, v_instanceMethod_Sumsetry_wins__IJ_J, v_selects_Sumsetry_wins__IJ_J, ⟨_, rfl, rfl⟩⟩)⟩
theorem cl_93 : CallOK RL csF 8 (93, 2, 5, 2, 2, fn_X7_put) :=
  Or.inr ⟨yX7_put, cX7_put, 2, (some .int), none, 7, ok_X7_put, by decide, by decide, v_code_Sumsetry_put__I_I, v_initialized_Sumsetry, ⟨by decide, by decide⟩, Or.inr (Or.inr ⟨rfl, rfl, show (parseMethodDescriptor yX7_put.desc).map (fun d => d.parameters.length + 1) = some 2 from by decide +kernel, v_methodLink_SumsetryLaw_93, v_instanceMethod_Sumsetry_put__I_I, v_selects_Sumsetry_put__I_I, ⟨_, rfl, rfl⟩⟩)⟩
theorem cl_96 : CallOK RL csF 7 (96, 2, 5, 1, 1, fn_X7_constant) :=
  Or.inr ⟨yX7_constant, cX7_constant, 1, (some .int), none, 6, ok_X7_constant, by decide, by decide, v_code_Sumsetry_constant___I, v_initialized_Sumsetry, ⟨by decide, by decide⟩, Or.inr (Or.inr ⟨rfl, rfl, show (parseMethodDescriptor yX7_constant.desc).map (fun d => d.parameters.length + 1) = some 1 from by decide +kernel, v_methodLink_SumsetryLaw_96, v_instanceMethod_Sumsetry_constant___I, v_selects_Sumsetry_constant___I, ⟨_, rfl, rfl⟩⟩)⟩
theorem cl_105 : CallOK RL csF 8 (105, 2, 5, 3, 2, fn_X7_transform) :=
  Or.inr ⟨yX7_transform, cX7_transform, 3, (some .int), none, 7, ok_X7_transform, by decide, by decide, v_code_Sumsetry_transform__II_I, v_initialized_Sumsetry, ⟨by decide, by decide⟩, Or.inr (Or.inr ⟨rfl, rfl, show (parseMethodDescriptor yX7_transform.desc).map (fun d => d.parameters.length + 1) = some 3 from by decide +kernel, v_methodLink_SumsetryLaw_105, v_instanceMethod_Sumsetry_transform__II_I, v_selects_Sumsetry_transform__II_I, ⟨_, rfl, rfl⟩⟩)⟩
theorem cl_108 : CallOK RL csF 8 (108, 2, 5, 4, 4, fn_X7_waysAnew) :=
  Or.inr ⟨yX7_waysAnew, cX7_waysAnew, 4, (some .int), none, 7, ok_X7_waysAnew, by decide, by decide, v_code_Sumsetry_waysAnew__III_I, v_initialized_Sumsetry, ⟨by decide, by decide⟩, Or.inr (Or.inr ⟨rfl, rfl, show (parseMethodDescriptor yX7_waysAnew.desc).map (fun d => d.parameters.length + 1) = some 4 from by decide +kernel, v_methodLink_SumsetryLaw_108, v_instanceMethod_Sumsetry_waysAnew__III_I, v_selects_Sumsetry_waysAnew__III_I, ⟨_, rfl, rfl⟩⟩)⟩
theorem cl_111 : CallOK RL csF 7 (111, 2, 5, 2, 1, fn_X7_of) :=
  Or.inr ⟨yX7_of, cX7_of, 2, (some .int), none, 6, ok_X7_of, by decide, by decide, v_code_Sumsetry_of__I_I, v_initialized_Sumsetry, ⟨by decide, by decide⟩, Or.inr (Or.inr ⟨rfl, rfl, show (parseMethodDescriptor yX7_of.desc).map (fun d => d.parameters.length + 1) = some 2 from by decide +kernel, v_methodLink_SumsetryLaw_111, v_instanceMethod_Sumsetry_of__I_I, v_selects_Sumsetry_of__I_I, ⟨_, rfl, rfl⟩⟩)⟩
def t_L_root : List (Nat × Instr × Nat) := [(0, .aload_n 0, 1), (1, .iload_n 1, 1), (2, .iload_n 2, 1), (3, .invokevirtual 7, 3), (6, .iconst 1, 1), (7, .ireturn, 1)]
theorem tk_L_root : ∀ x ∈ t_L_root, decode cL_root x.1 = .ok x.2 := by decide +kernel
noncomputable def C_L_root : Cfg := (t_L_root, csF, fl_L, [(7, 2, 5, 3, 1, fn_X7_root)], in_L, lg_L, [], [], none, (some .int), 1)
theorem cfg_L_root : CfgOK RL cL_root C_L_root 7 := ⟨tk_L_root, csF_nd, flk_L, (List.forall_mem_cons.mpr ⟨cl_7.up (by decide), fun _ h => absurd h List.not_mem_nil⟩), ink_L, lgk_L, fun e h => absurd h List.not_mem_nil, (fun h hh => absurd hh List.not_mem_nil)⟩
theorem ok_L_root : OkM csF yL_root (Cond.code yL_root cL_root 3 (some .int)) 7 1 (fnR C_L_root 3) := OkM_of (own := RL) (C := C_L_root) (by decide +kernel) rfl cfg_L_root rfl rfl rfl rfl fnR_ok
def D_L_root : Cfg2 := (t_L_root, [(7, 2, 5, 3, 1, q_root)], in_L, lg_L, none, (some .int), 1)
theorem s2_L_root : Sim2 C_L_root D_L_root := ⟨rfl, rfl, rfl, rfl, rfl, rfl, rfl, rfl, calls_sim (Sims.cons sim_root Sims.nil)⟩
def p_Lroot (v1 v2 : Int32) (s : HS) : Ans := match p_root v1 v2 s with
  | (.inl _, s') => aI 1 s'
  | (.inr k, s') => (.inr k, s')
def q_Lroot : Fn2 := fun av s => match av with
  | [.ref r0, .int v1, .int v2] => bif Nat.beq r0 0 then some (p_Lroot v1 v2 s) else none
  | _ => none
theorem root_form (v1 v2 : Int32) (s : HS) : (∃ k, (p_root v1 v2 s).1 = .inr k) ∨ (p_root v1 v2 s).1 = .inl none := by
  unfold p_root
  refine any_onO (P := fun x => (∃ k, x.1 = .inr k) ∨ x.1 = .inl none) (fun x => any_onO (P := fun x => (∃ k, x.1 = .inr k) ∨ x.1 = .inl none) (fun y => ?_) (Or.inl ⟨2, rfl⟩)) (Or.inl ⟨2, rfl⟩)
  exact any_bif (P := fun x => (∃ k, x.1 = .inr k) ∨ x.1 = .inl none) (Or.inl ⟨2, rfl⟩) (any_bif (P := fun x => (∃ k, x.1 = .inr k) ∨ x.1 = .inl none) (Or.inr rfl) (Or.inl ⟨3, rfl⟩))
theorem sim_Lroot : Sim (fnR C_L_root 3) q_Lroot := by
  intro av M s x hR h
  unfold q_Lroot at h
  split at h
  · rename_i r0 v1 v2
    cases hb : Nat.beq r0 0 with
    | false => rw [hb] at h; cases h
    | true =>
      rw [hb] at h
      obtain rfl := Nat.eq_of_beq_eq_true hb
      cases h
      have st0 : run2 D_L_root 3 (stI 3 [.ref 0, .int v1, .int v2] s) = some (.inl (3, [some (.ref 0), some (.int v1), some (.int v2)], [.int v2, .int v1, .ref 0], s, 0)) := rfl
      unfold p_Lroot
      cases hx : p_root v1 v2 s with
      | mk y s' =>
        have hf := root_form v1 v2 s
        rw [hx] at hf
        rcases hf with ⟨k, hk⟩ | hk
        · have hk : y = .inr k := hk
          subst hk
          exact fnR_sim s2_L_root (k := 0 + 1) hR rfl (Nat.le_of_ble_eq_true rfl) (E2.go 3 st0 (E2.xV (kd := 2) (ci := 5) (na := 3) (mc := 1) (f := q_root) rfl rfl rfl rfl rfl (show some (p_root v1 v2 s) = _ by rw [hx])))
        · have hk : y = .inl none := hk
          subst hk
          refine fnR_sim s2_L_root (k := 0 + 1) hR rfl (Nat.le_of_ble_eq_true rfl) (E2.go 3 st0 (R2.en (R2.cV (kd := 2) (ci := 5) (na := 3) (mc := 1) (f := q_root) rfl rfl rfl rfl rfl (show some (p_root v1 v2 s) = _ by rw [hx]) (R2.rf _)) (E2.fin 2 ?_)))
          rfl
  · cases h
