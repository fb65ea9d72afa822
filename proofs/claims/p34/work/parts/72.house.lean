/-! THE HOUSE'S CONSTRUCTOR -/
theorem dI7_0 : decode cX7_init 0 = .ok (.aload_n 0, 1) := by decide +kernel
theorem dI7_1 : decode cX7_init 1 = .ok (.invokespecial 1, 3) := by decide +kernel
theorem dI7_4 : decode cX7_init 4 = .ok (.aload_n 0, 1) := by decide +kernel
theorem dI7_5 : decode cX7_init 5 = .ok (.new 7, 3) := by decide +kernel
theorem dI7_8 : decode cX7_init 8 = .ok (.dup, 1) := by decide +kernel
theorem dI7_9 : decode cX7_init 9 = .ok (.invokespecial 9, 3) := by decide +kernel
theorem dI7_12 : decode cX7_init 12 = .ok (.putfield 10, 3) := by decide +kernel
theorem dI7_15 : decode cX7_init 15 = .ok (.aload_n 0, 1) := by decide +kernel
theorem dI7_16 : decode cX7_init 16 = .ok (.bipush 30, 2) := by decide +kernel
theorem dI7_18 : decode cX7_init 18 = .ok (.newarray .long, 2) := by decide +kernel
theorem dI7_20 : decode cX7_init 20 = .ok (.putfield 16, 3) := by decide +kernel
theorem dI7_23 : decode cX7_init 23 = .ok (.aload_n 0, 1) := by decide +kernel
theorem dI7_24 : decode cX7_init 24 = .ok (.iconst 0, 1) := by decide +kernel
theorem dI7_25 : decode cX7_init 25 = .ok (.putfield 20, 3) := by decide +kernel
theorem dI7_28 : decode cX7_init 28 = .ok (.aload_n 0, 1) := by decide +kernel
theorem dI7_29 : decode cX7_init 29 = .ok (.new 24, 3) := by decide +kernel
theorem dI7_32 : decode cX7_init 32 = .ok (.dup, 1) := by decide +kernel
theorem dI7_33 : decode cX7_init 33 = .ok (.invokespecial 26, 3) := by decide +kernel
theorem dI7_36 : decode cX7_init 36 = .ok (.putfield 27, 3) := by decide +kernel
theorem dI7_39 : decode cX7_init 39 = .ok (.aload_n 0, 1) := by decide +kernel
theorem dI7_40 : decode cX7_init 40 = .ok (.new 31, 3) := by decide +kernel
theorem dI7_43 : decode cX7_init 43 = .ok (.dup, 1) := by decide +kernel
theorem dI7_44 : decode cX7_init 44 = .ok (.invokespecial 33, 3) := by decide +kernel
theorem dI7_47 : decode cX7_init 47 = .ok (.putfield 34, 3) := by decide +kernel
theorem dI7_50 : decode cX7_init 50 = .ok (.aload_n 0, 1) := by decide +kernel
theorem dI7_51 : decode cX7_init 51 = .ok (.new 38, 3) := by decide +kernel
theorem dI7_54 : decode cX7_init 54 = .ok (.dup, 1) := by decide +kernel
theorem dI7_55 : decode cX7_init 55 = .ok (.invokespecial 40, 3) := by decide +kernel
theorem dI7_58 : decode cX7_init 58 = .ok (.putfield 41, 3) := by decide +kernel
theorem dI7_61 : decode cX7_init 61 = .ok (.aload_n 0, 1) := by decide +kernel
theorem dI7_62 : decode cX7_init 62 = .ok (.new 45, 3) := by decide +kernel
theorem dI7_65 : decode cX7_init 65 = .ok (.dup, 1) := by decide +kernel
theorem dI7_66 : decode cX7_init 66 = .ok (.invokespecial 47, 3) := by decide +kernel
theorem dI7_69 : decode cX7_init 69 = .ok (.putfield 48, 3) := by decide +kernel
theorem dI7_72 : decode cX7_init 72 = .ok (.return_, 1) := by decide +kernel
theorem tb_X7_o : Cond.methodLink RX7 1 objectInit ∈ TB := by decide +kernel
theorem tb_X7_10 : Cond.fieldLink RX7 10 "Sumsetry" "group" "LSumsetry$Group;" ∈ TB := by decide +kernel
theorem tb_X7_16 : Cond.fieldLink RX7 16 "Sumsetry" "sets" "[J" ∈ TB := by decide +kernel
theorem tb_X7_20 : Cond.fieldLink RX7 20 "Sumsetry" "setCount" "I" ∈ TB := by decide +kernel
theorem tb_X7_27 : Cond.fieldLink RX7 27 "Sumsetry" "maps" "LSumsetry$Maps;" ∈ TB := by decide +kernel
theorem tb_X7_34 : Cond.fieldLink RX7 34 "Sumsetry" "game" "LSumsetry$Game;" ∈ TB := by decide +kernel
theorem tb_X7_41 : Cond.fieldLink RX7 41 "Sumsetry" "row" "LSumsetry$Row;" ∈ TB := by decide +kernel
theorem tb_X7_48 : Cond.fieldLink RX7 48 "Sumsetry" "transforms" "LSumsetry$Transforms;" ∈ TB := by decide +kernel
theorem TB_all : TB.all goodWord = true := List.all_eq_true.mpr fun w h => (TB_good h).2
theorem gin {y : MethodName} {cc : ByteArray} (h : Cond.code y cc 1 none ∈ TB) : GoodIn TB (wC y cc) := goodIn_sub (fun w hw => (List.mem_cons.mp hw).elim (fun e => e ▸ h) id) (List.all_eq_true.mpr fun w hw => (List.mem_cons.mp hw).elim (fun e => e ▸ (TB_good h).2) fun h => (TB_good h).2)
theorem tb_X7_n7 : Cond.classLink RX7 7 RX1 ∈ TB := by decide +kernel
theorem tb_X7_m7 : Cond.instantiable RX1 7 ∈ TB := by decide +kernel
theorem tb_X7_i7 : Cond.initialized RX1 ∈ TB := by decide +kernel
theorem tb_X7_y7 : Cond.instanceMethod yX1_init ∈ TB := by decide +kernel
theorem tb_X7_c7 : Cond.code yX1_init cX1_init 1 none ∈ TB := by decide +kernel
theorem tb_X7_l7 : Cond.methodLink RX7 9 yX1_init ∈ TB := by decide +kernel
theorem z_X1 (j : Nat) (hj : j < 7) : defaultValue (tyX1 j) = vp_V [.int 0, .int 0, .int 0, .long 0, .long 0, .long 0, .null] j := match j, hj with
  | 0, _ => rfl
  | 1, _ => rfl
  | 2, _ => rfl
  | 3, _ => rfl
  | 4, _ => rfl
  | 5, _ => rfl
  | 6, _ => rfl
  | j + 7, h => absurd h (by omega)
theorem tb_X7_n24 : Cond.classLink RX7 24 RX2 ∈ TB := by decide +kernel
theorem tb_X7_m24 : Cond.instantiable RX2 10 ∈ TB := by decide +kernel
theorem tb_X7_i24 : Cond.initialized RX2 ∈ TB := by decide +kernel
theorem tb_X7_y24 : Cond.instanceMethod yX2_init ∈ TB := by decide +kernel
theorem tb_X7_c24 : Cond.code yX2_init cX2_init 1 none ∈ TB := by decide +kernel
theorem tb_X7_l24 : ("Sumsetry", 26, yX2_init, "Sumsetry") ∈ nestL := by decide +kernel
theorem z_X2 (j : Nat) (hj : j < 10) : defaultValue (tyX2 j) = vp_V [.null, .null, .null, .null, .null, .null, .null, .int 0, .int 0, .int 0] j := match j, hj with
  | 0, _ => rfl
  | 1, _ => rfl
  | 2, _ => rfl
  | 3, _ => rfl
  | 4, _ => rfl
  | 5, _ => rfl
  | 6, _ => rfl
  | 7, _ => rfl
  | 8, _ => rfl
  | 9, _ => rfl
  | j + 10, h => absurd h (by omega)
theorem tb_X7_n31 : Cond.classLink RX7 31 RX0 ∈ TB := by decide +kernel
theorem tb_X7_m31 : Cond.instantiable RX0 1 ∈ TB := by decide +kernel
theorem tb_X7_i31 : Cond.initialized RX0 ∈ TB := by decide +kernel
theorem tb_X7_y31 : Cond.instanceMethod yX0_init ∈ TB := by decide +kernel
theorem tb_X7_c31 : Cond.code yX0_init cX0_init 1 none ∈ TB := by decide +kernel
theorem tb_X7_l31 : ("Sumsetry", 33, yX0_init, "Sumsetry") ∈ nestL := by decide +kernel
theorem z_X0 (j : Nat) (hj : j < 1) : defaultValue (tyX0 j) = vp_V [.null] j := match j, hj with
  | 0, _ => rfl
  | j + 1, h => absurd h (by omega)
theorem tb_X7_n38 : Cond.classLink RX7 38 RX3 ∈ TB := by decide +kernel
theorem tb_X7_m38 : Cond.instantiable RX3 3 ∈ TB := by decide +kernel
theorem tb_X7_i38 : Cond.initialized RX3 ∈ TB := by decide +kernel
theorem tb_X7_y38 : Cond.instanceMethod yX3_init ∈ TB := by decide +kernel
theorem tb_X7_c38 : Cond.code yX3_init cX3_init 1 none ∈ TB := by decide +kernel
theorem tb_X7_l38 : ("Sumsetry", 40, yX3_init, "Sumsetry") ∈ nestL := by decide +kernel
theorem z_X3 (j : Nat) (hj : j < 3) : defaultValue (tyX3 j) = vp_V [.null, .null, .int 0] j := match j, hj with
  | 0, _ => rfl
  | 1, _ => rfl
  | 2, _ => rfl
  | j + 3, h => absurd h (by omega)
theorem tb_X7_n45 : Cond.classLink RX7 45 RX6 ∈ TB := by decide +kernel
theorem tb_X7_m45 : Cond.instantiable RX6 3 ∈ TB := by decide +kernel
theorem tb_X7_i45 : Cond.initialized RX6 ∈ TB := by decide +kernel
theorem tb_X7_y45 : Cond.instanceMethod yX6_init ∈ TB := by decide +kernel
theorem tb_X7_c45 : Cond.code yX6_init cX6_init 1 none ∈ TB := by decide +kernel
theorem tb_X7_l45 : ("Sumsetry", 47, yX6_init, "Sumsetry") ∈ nestL := by decide +kernel
theorem z_X6 (j : Nat) (hj : j < 3) : defaultValue (tyX6 j) = vp_V [.int 0, .int 0, .null] j := match j, hj with
  | 0, _ => rfl
  | 1, _ => rfl
  | 2, _ => rfl
  | j + 3, h => absurd h (by omega)
def Mz (M : Mem) : Mem := (fun k j => match k with | 2 => M.1 2 j | 3 => M.1 3 j | _ => 0, fun k j => match k with | 2 => M.2 2 j | _ => 0)
def cs7 : List Nat := List.range 19
set_option maxHeartbeats 8000000 in
set_option maxRecDepth 100000 in
theorem i_X7 (l : Launch) (hst : l.stackTraces = false) (D : va_G) (cA : Nat → ClassId) (ad : Nat → Nat) (lo h0 sz : Nat) (hlo : lo ≤ h0 ∧ lo ≤ sz) : Met l yX7_init (wC yX7_init cX7_init) ({ frames := 6, cells := 18, slots := 5430, locals := 400 }) (va_Pc [.ref h0] (fun U => U.heap.size = sz ∧ va_P D vwCl [(h0, .inr (5, [.null, .null, .int 0, .null, .null, .null, .null]))] U.heap ∧ KW (D, cA, ad, lo) U ∧ va_D (fun _ => True) [(h0, .inr (5, [.null, .null, .int 0, .null, .null, .null, .null]))])) (va_Qv (fun _ : (Nat → Nat) × Mem => True) (fun u U => (GI u.2 1 1 ∧ u.1 0 = h0) ∧ va_P D vwCl (wl (D, cA, u.1, lo) (Mz u.2) cs7) U.heap ∧ va_D (va_A [(h0, .inr (5, [.null, .null, .int 0, .null, .null, .null, .null]))] sz) (wl (D, cA, u.1, lo) (Mz u.2) cs7)) (va_A [(h0, .inr (5, [.null, .null, .int 0, .null, .null, .null, .null]))] sz)) 18 5430 (va_A [(h0, .inr (5, [.null, .null, .int 0, .null, .null, .null, .null]))] sz) := by
  refine Met.ofW (cc := cX7_init) (maxL := 1) (ret := none) (by decide) rfl ?_
  intro p e s m args below meth c s₁ B hml hv
  obtain ⟨rfl, hsz, hP, hKW, hD0⟩ := hv
  have hx := B.exec
  have hb := B.bytes
  have hr := B.returns
  have hts0 := atoms_spec (ws := wC yX7_init cX7_init) B.pre
  have hts : ∀ w ∈ TB, w.before _ s = true := fun w hw => hts0 w (List.mem_cons_of_mem _ hw)
  have hown : s.vm.findClass RX7 = some m.cls := findClass_of_methodNamed B.named
  have hin : meth.name = "<init>" := (name_of_methodNamed B.named B.method).1
  subst hsz
  have hD := hD0.self (sz := s.heap.size)
  generalize hAe : va_A [(h0, .inr (5, [.null, .null, .int 0, .null, .null, .null, .null]))] s.heap.size = A at hD ⊢
  have hA : ∀ q : Nat, s.heap.size ≤ q → A q := fun q h => by rw [← hAe]; exact Or.inr h
  have hAlo : ∀ q, A q → lo ≤ q := by
    intro q hq
    rw [← hAe] at hq
    rcases hq with ⟨k, e, hk⟩ | h
    · match k, hk with
      | 0, hk => cases hk; exact hlo.1
      | k + 1, hk => cases hk
    · exact Nat.le_trans hlo.2 h
  have hS : va_S A s.heap s.heap [] := va_S.rf
  have hK := hKW.1
  have hKn : va_K D vwCl [] s := hK.sub (tys' := []) [] rfl
  have hP : va_P D vwCl [(h0, .inr (5, [.null, .null, .int 0, .null, .null, .null, .null]))] s.heap := hP
  have hl := lv_entry ([.ref h0]) (n := 1) (Nat.le_of_ble_eq_true rfl)
  rw [lg_entry_eq]
  generalize (lg_sl ([.ref h0]) ++ List.replicate (1 - (lg_sl ([.ref h0])).length) Slot.unset).toArray = ls at hl ⊢
  have hl : lv_has ls 1 [(0, .ref h0)] := hl
  refine lv_aload_n hx hb dI7_0 rfl (lv_at hl 0 rfl) ?_
  refine W.objInit hx hb hown (hts _ tb_X7_o) (hts _ tb_obj.1) (hts _ tb_obj.2) rfl (by rw [hml]; exact hl.1) rfl dI7_1 (Nat.le_of_ble_eq_true rfl) (Nat.le_of_ble_eq_true rfl) ?_
  refine W.eq (g2 := F0 m 4 ls []) rfl ?_
  refine lv_aload_n hx hb dI7_4 rfl (lv_at hl 0 rfl) ?_
  refine va_new (ci := 1) (fs := [.int 0, .int 0, .int 0, .long 0, .long 0, .long 0, .null]) (C := RX1) (T := TX1) (N := 7) hx hb hts (cls_ok 1 _ rfl).1 tyX1 tyX1_ok hown (hts _ tb_X7_n7) (hts _ tb_X7_m7) (hts _ tb_X7_i7) hK hP hD hS hA rfl z_X1 (Nat.le_of_ble_eq_true rfl) (Nat.le_of_ble_eq_true rfl) dI7_5 (fun oX1 H hP hD hS => ?_)
  have hP : va_P D vwCl [(h0, .inr (5, [.null, .null, .int 0, .null, .null, .null, .null])), (oX1, .inr (1, [.int 0, .int 0, .int 0, .long 0, .long 0, .long 0, .null]))] H := hP
  have hD : va_D A [(h0, .inr (5, [.null, .null, .int 0, .null, .null, .null, .null])), (oX1, .inr (1, [.int 0, .int 0, .int 0, .long 0, .long 0, .long 0, .null]))] := hD
  refine lv_dup hx hb dI7_8 rfl ?_
  have hPc := hP.sub (ws' := [(oX1, .inr (1, [.int 0, .int 0, .int 0, .long 0, .long 0, .long 0, .null]))]) [1] rfl
  have hDc := hD.sub (ws' := [(oX1, .inr (1, [.int 0, .int 0, .int 0, .long 0, .long 0, .long 0, .null]))]) [1] (by decide) rfl
  have hFc := va_free (wc := [(oX1, .inr (1, [.int 0, .int 0, .int 0, .long 0, .long 0, .long 0, .null]))]) hD hS hA [1] rfl
  have hoX1 : lo ≤ oX1 ∧ lo ≤ H.size := ⟨hAlo _ (hD.2 1 _ rfl), Nat.le_trans hlo.2 hS.1⟩
  refine va_callv (va_runI (As := []) (rest := [.ref oX1, .ref h0]) ⟨hx, hb, hml, hown, hts⟩ (i_X1 l hst D cA ad lo oX1 H.size hoX1) (cwI 0 hts (gin tb_X7_c7) rfl rfl rfl (hts _ tb_X7_i7) (hts _ tb_X7_l7) (hts _ tb_X7_y7) rfl (by decide +kernel) ⟨Nat.le_of_ble_eq_true rfl, Nat.le_of_ble_eq_true rfl⟩) ⟨fun a U g mk q => by obtain ⟨q0, q1, qP, qK, qD⟩ := q; exact ⟨q0, q1, qP, qK.blind, qD⟩, fun U hU hW => ⟨rfl, by rw [hU], by rw [hU]; exact hPc, hKW.move hU hW hS hAlo, hDc.weaken (fun _ _ _ _ => trivial)⟩⟩ rfl rfl hl.1 rfl (lv_room (Nat.le_of_ble_eq_true rfl)) dI7_9 ⟨Nat.le_of_ble_eq_true rfl, Nat.le_of_ble_eq_true rfl⟩) hS (fun q _ h => hFc q h) hFc (fun u t H1 locs ht hvm hw hB hz1 hk1 hS => ?_)
  obtain ⟨⟨hgi, -, -⟩, hP1, hD1⟩ := hB
  rw [ht] at hP1
  obtain ⟨qG, MG⟩ := u
  have hP1 : va_P D vwCl [(oX1, .inr (1, [.int (MG.1 2 0), .int (MG.1 2 1), .int (MG.1 2 2), .long (MG.2 2 3), .long (MG.2 2 4), .long (MG.2 2 5), .ref qG])), (qG, .inl (cA 0, 36, .inl (MG.1 3)))] H1 := hP1
  have hD1 : va_D (va_A [(oX1, .inr (1, [.int 0, .int 0, .int 0, .long 0, .long 0, .long 0, .null]))] H.size) [(oX1, .inr (1, [.int (MG.1 2 0), .int (MG.1 2 1), .int (MG.1 2 2), .long (MG.2 2 3), .long (MG.2 2 4), .long (MG.2 2 5), .ref qG])), (qG, .inl (cA 0, 36, .inl (MG.1 3)))] := hD1
  obtain ⟨hP, hD⟩ := va_join (wr := [(h0, .inr (5, [.null, .null, .int 0, .null, .null, .null, .null]))]) (w1 := [(oX1, .inr (1, [.int (MG.1 2 0), .int (MG.1 2 1), .int (MG.1 2 2), .long (MG.2 2 3), .long (MG.2 2 4), .long (MG.2 2 5), .ref qG])), (qG, .inl (cA 0, 36, .inl (MG.1 3)))]) hP hD [1] [0] rfl rfl (by decide) (by decide) hk1 hFc hP1 hD1
  have hP : va_P D vwCl [(h0, .inr (5, [.null, .null, .int 0, .null, .null, .null, .null])), (oX1, .inr (1, [.int (MG.1 2 0), .int (MG.1 2 1), .int (MG.1 2 2), .long (MG.2 2 3), .long (MG.2 2 4), .long (MG.2 2 5), .ref qG])), (qG, .inl (cA 0, 36, .inl (MG.1 3)))] H1 := hP
  have hD : va_D A [(h0, .inr (5, [.null, .null, .int 0, .null, .null, .null, .null])), (oX1, .inr (1, [.int (MG.1 2 0), .int (MG.1 2 1), .int (MG.1 2 2), .long (MG.2 2 3), .long (MG.2 2 4), .long (MG.2 2 5), .ref qG])), (qG, .inl (cA 0, 36, .inl (MG.1 3)))] := hD
  refine va_putF (D := D) (ci := 5) (v := .ref oX1) (ty := .object "Sumsetry$Group") (C := RX7) (T := TX7) (N := 7) hx hb hts (cls_ok 5 _ rfl).1 tyX7 tyX7_ok nmX7 hown hK hP hD hS 0 rfl rfl 0 (by decide) (hts _ tb_X7_10) (fun _ h9 => h9) rfl hin rfl (by decide +kernel) rfl rfl (Nat.le_of_ble_eq_true rfl) dI7_12 (fun H locs hP hD hS => ?_)
  have hP : va_P D vwCl [(h0, .inr (5, [.ref oX1, .null, .int 0, .null, .null, .null, .null])), (oX1, .inr (1, [.int (MG.1 2 0), .int (MG.1 2 1), .int (MG.1 2 2), .long (MG.2 2 3), .long (MG.2 2 4), .long (MG.2 2 5), .ref qG])), (qG, .inl (cA 0, 36, .inl (MG.1 3)))] H := hP
  have hD : va_D A [(h0, .inr (5, [.ref oX1, .null, .int 0, .null, .null, .null, .null])), (oX1, .inr (1, [.int (MG.1 2 0), .int (MG.1 2 1), .int (MG.1 2 2), .long (MG.2 2 3), .long (MG.2 2 4), .long (MG.2 2 5), .ref qG])), (qG, .inl (cA 0, 36, .inl (MG.1 3)))] := hD
  refine lv_aload_n hx hb dI7_15 rfl (lv_at hl 0 rfl) ?_
  refine lv_bipush hx hb dI7_16 (v := 30) (by decide +kernel) ?_
  refine va_newa (atype := .long) (ty := .long) (N' := 30) (a0 := (30, .inr (.inl (fun _ => 0)))) hx hb (hts _ tb_aJ) rfl hK hP hD hS hA (fun _ => rfl) (by decide) (by decide) (Nat.le_of_ble_eq_true rfl) (Nat.le_of_ble_eq_true rfl) (Nat.le_of_ble_eq_true rfl) dI7_18 (fun qS cN H hK2 hP hD hS => ?_)
  have eN : cA 1 = cN := K_long hK2 1 2 rfl rfl
  subst eN
  have hP : va_P D vwCl [(h0, .inr (5, [.ref oX1, .null, .int 0, .null, .null, .null, .null])), (oX1, .inr (1, [.int (MG.1 2 0), .int (MG.1 2 1), .int (MG.1 2 2), .long (MG.2 2 3), .long (MG.2 2 4), .long (MG.2 2 5), .ref qG])), (qG, .inl (cA 0, 36, .inl (MG.1 3))), (qS, .inl (cA 1, 30, .inr (.inl (fun _ => 0))))] H := hP
  have hD : va_D A [(h0, .inr (5, [.ref oX1, .null, .int 0, .null, .null, .null, .null])), (oX1, .inr (1, [.int (MG.1 2 0), .int (MG.1 2 1), .int (MG.1 2 2), .long (MG.2 2 3), .long (MG.2 2 4), .long (MG.2 2 5), .ref qG])), (qG, .inl (cA 0, 36, .inl (MG.1 3))), (qS, .inl (cA 1, 30, .inr (.inl (fun _ => 0))))] := hD
  refine va_putF (D := D) (ci := 5) (v := .ref qS) (ty := .array .long) (C := RX7) (T := TX7) (N := 7) hx hb hts (cls_ok 5 _ rfl).1 tyX7 tyX7_ok nmX7 hown hK hP hD hS 0 rfl rfl 1 (by decide) (hts _ tb_X7_16) (fun _ h9 => h9) rfl hin rfl (by decide +kernel) rfl rfl (Nat.le_of_ble_eq_true rfl) dI7_20 (fun H locs hP hD hS => ?_)
  have hP : va_P D vwCl [(h0, .inr (5, [.ref oX1, .ref qS, .int 0, .null, .null, .null, .null])), (oX1, .inr (1, [.int (MG.1 2 0), .int (MG.1 2 1), .int (MG.1 2 2), .long (MG.2 2 3), .long (MG.2 2 4), .long (MG.2 2 5), .ref qG])), (qG, .inl (cA 0, 36, .inl (MG.1 3))), (qS, .inl (cA 1, 30, .inr (.inl (fun _ => 0))))] H := hP
  have hD : va_D A [(h0, .inr (5, [.ref oX1, .ref qS, .int 0, .null, .null, .null, .null])), (oX1, .inr (1, [.int (MG.1 2 0), .int (MG.1 2 1), .int (MG.1 2 2), .long (MG.2 2 3), .long (MG.2 2 4), .long (MG.2 2 5), .ref qG])), (qG, .inl (cA 0, 36, .inl (MG.1 3))), (qS, .inl (cA 1, 30, .inr (.inl (fun _ => 0))))] := hD
  refine lv_aload_n hx hb dI7_23 rfl (lv_at hl 0 rfl) ?_
  refine lv_iconst hx hb dI7_24 (v := 0) (by decide +kernel) ?_
  refine va_put (D := D) (ci := 5) (v := .int 0) (ty := .int) (C := RX7) (T := TX7) (N := 7) hx hb hts (cls_ok 5 _ rfl).1 tyX7 tyX7_ok nmX7 hown hK hP hD hS 0 rfl rfl 2 (by decide) (hts _ tb_X7_20) (fun _ h9 => h9) rfl (by decide +kernel) rfl rfl (Nat.le_of_ble_eq_true rfl) dI7_25 (fun H locs hP hD hS => ?_)
  have hP : va_P D vwCl [(h0, .inr (5, [.ref oX1, .ref qS, .int 0, .null, .null, .null, .null])), (oX1, .inr (1, [.int (MG.1 2 0), .int (MG.1 2 1), .int (MG.1 2 2), .long (MG.2 2 3), .long (MG.2 2 4), .long (MG.2 2 5), .ref qG])), (qG, .inl (cA 0, 36, .inl (MG.1 3))), (qS, .inl (cA 1, 30, .inr (.inl (fun _ => 0))))] H := hP
  have hD : va_D A [(h0, .inr (5, [.ref oX1, .ref qS, .int 0, .null, .null, .null, .null])), (oX1, .inr (1, [.int (MG.1 2 0), .int (MG.1 2 1), .int (MG.1 2 2), .long (MG.2 2 3), .long (MG.2 2 4), .long (MG.2 2 5), .ref qG])), (qG, .inl (cA 0, 36, .inl (MG.1 3))), (qS, .inl (cA 1, 30, .inr (.inl (fun _ => 0))))] := hD
  refine lv_aload_n hx hb dI7_28 rfl (lv_at hl 0 rfl) ?_
  refine va_new (ci := 2) (fs := [.null, .null, .null, .null, .null, .null, .null, .int 0, .int 0, .int 0]) (C := RX2) (T := TX2) (N := 10) hx hb hts (cls_ok 2 _ rfl).1 tyX2 tyX2_ok hown (hts _ tb_X7_n24) (hts _ tb_X7_m24) (hts _ tb_X7_i24) hK hP hD hS hA rfl z_X2 (Nat.le_of_ble_eq_true rfl) (Nat.le_of_ble_eq_true rfl) dI7_29 (fun oX2 H hP hD hS => ?_)
  have hP : va_P D vwCl [(h0, .inr (5, [.ref oX1, .ref qS, .int 0, .null, .null, .null, .null])), (oX1, .inr (1, [.int (MG.1 2 0), .int (MG.1 2 1), .int (MG.1 2 2), .long (MG.2 2 3), .long (MG.2 2 4), .long (MG.2 2 5), .ref qG])), (qG, .inl (cA 0, 36, .inl (MG.1 3))), (qS, .inl (cA 1, 30, .inr (.inl (fun _ => 0)))), (oX2, .inr (2, [.null, .null, .null, .null, .null, .null, .null, .int 0, .int 0, .int 0]))] H := hP
  have hD : va_D A [(h0, .inr (5, [.ref oX1, .ref qS, .int 0, .null, .null, .null, .null])), (oX1, .inr (1, [.int (MG.1 2 0), .int (MG.1 2 1), .int (MG.1 2 2), .long (MG.2 2 3), .long (MG.2 2 4), .long (MG.2 2 5), .ref qG])), (qG, .inl (cA 0, 36, .inl (MG.1 3))), (qS, .inl (cA 1, 30, .inr (.inl (fun _ => 0)))), (oX2, .inr (2, [.null, .null, .null, .null, .null, .null, .null, .int 0, .int 0, .int 0]))] := hD
  refine lv_dup hx hb dI7_32 rfl ?_
  have hPc := hP.sub (ws' := [(oX2, .inr (2, [.null, .null, .null, .null, .null, .null, .null, .int 0, .int 0, .int 0]))]) [4] rfl
  have hDc := hD.sub (ws' := [(oX2, .inr (2, [.null, .null, .null, .null, .null, .null, .null, .int 0, .int 0, .int 0]))]) [4] (by decide) rfl
  have hFc := va_free (wc := [(oX2, .inr (2, [.null, .null, .null, .null, .null, .null, .null, .int 0, .int 0, .int 0]))]) hD hS hA [4] rfl
  refine va_callv (va_runIN (As := []) (rest := [.ref oX2, .ref h0]) ⟨hx, hb, hml, hown, hts⟩ (i_X2 l D oX2 H.size) ⟨va_cnB 0 hts (gin tb_X7_c24) rfl rfl rfl (hKW.2.2.2.2.1 _ tb_X7_l24) (hts _ tb_X7_i24) (by decide +kernel) ⟨Nat.le_of_ble_eq_true rfl, Nat.le_of_ble_eq_true rfl⟩, rfl, hts _ tb_X7_y24⟩ ⟨fun a U g mk q => by obtain ⟨q0, q1, qP, qK, qD⟩ := q; exact ⟨q0, q1, qP, va_K.moved (u := U) (U := U.calling g mk a) (Vm.Alike.refl U.vm) qK, qD⟩, fun U hU hW => ⟨rfl, by rw [hU], by rw [hU]; exact hPc, va_K.moved hW.alike hKn, hDc.weaken (fun _ _ _ _ => trivial)⟩⟩ rfl rfl hl.1 rfl (lv_room (Nat.le_of_ble_eq_true rfl)) dI7_33 ⟨Nat.le_of_ble_eq_true rfl, Nat.le_of_ble_eq_true rfl⟩) hS (fun q _ h => hFc q h) hFc (fun uX2 t H1 locs ht hvm hw hB hz1 hk1 hS => ?_)
  obtain ⟨hP1, hK1, hD1⟩ := hB
  rw [ht] at hP1
  have hK1 := va_K.moved hvm.symm hK1
  have eC : cA 0 = uX2.2 0 := K_int (hK.app hK1) 0 2 rfl rfl
  unfold wl_X2 at hP1 hD1
  rw [← eC] at hP1 hD1
  obtain ⟨hP, hD⟩ := va_join (wr := [(h0, .inr (5, [.ref oX1, .ref qS, .int 0, .null, .null, .null, .null])), (oX1, .inr (1, [.int (MG.1 2 0), .int (MG.1 2 1), .int (MG.1 2 2), .long (MG.2 2 3), .long (MG.2 2 4), .long (MG.2 2 5), .ref qG])), (qG, .inl (cA 0, 36, .inl (MG.1 3))), (qS, .inl (cA 1, 30, .inr (.inl (fun _ => 0))))]) (w1 := [(oX2, .inr (2, [.ref (uX2.1 0), .ref (uX2.1 1), .ref (uX2.1 2), .ref (uX2.1 3), .ref (uX2.1 4), .ref (uX2.1 5), .ref (uX2.1 6), .int 0, .int 0, .int 0])), (uX2.1 0, .inl (cA 0, 6, .inl (fun _ => 0))), (uX2.1 1, .inl (cA 0, 6, .inl (fun _ => 0))), (uX2.1 2, .inl (cA 0, 6, .inl (fun _ => 0))), (uX2.1 3, .inl (cA 0, 6, .inl (fun _ => 0))), (uX2.1 4, .inl (cA 0, 56, .inl (fun _ => 0))), (uX2.1 5, .inl (cA 0, 56, .inl (fun _ => 0))), (uX2.1 6, .inl (cA 0, 36, .inl (fun _ => 0)))]) hP hD [4] [0, 1, 2, 3] rfl rfl (by decide) (by decide) hk1 hFc hP1 hD1
  have hP : va_P D vwCl [(h0, .inr (5, [.ref oX1, .ref qS, .int 0, .null, .null, .null, .null])), (oX1, .inr (1, [.int (MG.1 2 0), .int (MG.1 2 1), .int (MG.1 2 2), .long (MG.2 2 3), .long (MG.2 2 4), .long (MG.2 2 5), .ref qG])), (qG, .inl (cA 0, 36, .inl (MG.1 3))), (qS, .inl (cA 1, 30, .inr (.inl (fun _ => 0)))), (oX2, .inr (2, [.ref (uX2.1 0), .ref (uX2.1 1), .ref (uX2.1 2), .ref (uX2.1 3), .ref (uX2.1 4), .ref (uX2.1 5), .ref (uX2.1 6), .int 0, .int 0, .int 0])), (uX2.1 0, .inl (cA 0, 6, .inl (fun _ => 0))), (uX2.1 1, .inl (cA 0, 6, .inl (fun _ => 0))), (uX2.1 2, .inl (cA 0, 6, .inl (fun _ => 0))), (uX2.1 3, .inl (cA 0, 6, .inl (fun _ => 0))), (uX2.1 4, .inl (cA 0, 56, .inl (fun _ => 0))), (uX2.1 5, .inl (cA 0, 56, .inl (fun _ => 0))), (uX2.1 6, .inl (cA 0, 36, .inl (fun _ => 0)))] H1 := hP
  have hD : va_D A [(h0, .inr (5, [.ref oX1, .ref qS, .int 0, .null, .null, .null, .null])), (oX1, .inr (1, [.int (MG.1 2 0), .int (MG.1 2 1), .int (MG.1 2 2), .long (MG.2 2 3), .long (MG.2 2 4), .long (MG.2 2 5), .ref qG])), (qG, .inl (cA 0, 36, .inl (MG.1 3))), (qS, .inl (cA 1, 30, .inr (.inl (fun _ => 0)))), (oX2, .inr (2, [.ref (uX2.1 0), .ref (uX2.1 1), .ref (uX2.1 2), .ref (uX2.1 3), .ref (uX2.1 4), .ref (uX2.1 5), .ref (uX2.1 6), .int 0, .int 0, .int 0])), (uX2.1 0, .inl (cA 0, 6, .inl (fun _ => 0))), (uX2.1 1, .inl (cA 0, 6, .inl (fun _ => 0))), (uX2.1 2, .inl (cA 0, 6, .inl (fun _ => 0))), (uX2.1 3, .inl (cA 0, 6, .inl (fun _ => 0))), (uX2.1 4, .inl (cA 0, 56, .inl (fun _ => 0))), (uX2.1 5, .inl (cA 0, 56, .inl (fun _ => 0))), (uX2.1 6, .inl (cA 0, 36, .inl (fun _ => 0)))] := hD
  refine va_putF (D := D) (ci := 5) (v := .ref oX2) (ty := .object "Sumsetry$Maps") (C := RX7) (T := TX7) (N := 7) hx hb hts (cls_ok 5 _ rfl).1 tyX7 tyX7_ok nmX7 hown hK hP hD hS 0 rfl rfl 3 (by decide) (hts _ tb_X7_27) (fun _ h9 => h9) rfl hin rfl (by decide +kernel) rfl rfl (Nat.le_of_ble_eq_true rfl) dI7_36 (fun H locs hP hD hS => ?_)
  have hP : va_P D vwCl [(h0, .inr (5, [.ref oX1, .ref qS, .int 0, .ref oX2, .null, .null, .null])), (oX1, .inr (1, [.int (MG.1 2 0), .int (MG.1 2 1), .int (MG.1 2 2), .long (MG.2 2 3), .long (MG.2 2 4), .long (MG.2 2 5), .ref qG])), (qG, .inl (cA 0, 36, .inl (MG.1 3))), (qS, .inl (cA 1, 30, .inr (.inl (fun _ => 0)))), (oX2, .inr (2, [.ref (uX2.1 0), .ref (uX2.1 1), .ref (uX2.1 2), .ref (uX2.1 3), .ref (uX2.1 4), .ref (uX2.1 5), .ref (uX2.1 6), .int 0, .int 0, .int 0])), (uX2.1 0, .inl (cA 0, 6, .inl (fun _ => 0))), (uX2.1 1, .inl (cA 0, 6, .inl (fun _ => 0))), (uX2.1 2, .inl (cA 0, 6, .inl (fun _ => 0))), (uX2.1 3, .inl (cA 0, 6, .inl (fun _ => 0))), (uX2.1 4, .inl (cA 0, 56, .inl (fun _ => 0))), (uX2.1 5, .inl (cA 0, 56, .inl (fun _ => 0))), (uX2.1 6, .inl (cA 0, 36, .inl (fun _ => 0)))] H := hP
  have hD : va_D A [(h0, .inr (5, [.ref oX1, .ref qS, .int 0, .ref oX2, .null, .null, .null])), (oX1, .inr (1, [.int (MG.1 2 0), .int (MG.1 2 1), .int (MG.1 2 2), .long (MG.2 2 3), .long (MG.2 2 4), .long (MG.2 2 5), .ref qG])), (qG, .inl (cA 0, 36, .inl (MG.1 3))), (qS, .inl (cA 1, 30, .inr (.inl (fun _ => 0)))), (oX2, .inr (2, [.ref (uX2.1 0), .ref (uX2.1 1), .ref (uX2.1 2), .ref (uX2.1 3), .ref (uX2.1 4), .ref (uX2.1 5), .ref (uX2.1 6), .int 0, .int 0, .int 0])), (uX2.1 0, .inl (cA 0, 6, .inl (fun _ => 0))), (uX2.1 1, .inl (cA 0, 6, .inl (fun _ => 0))), (uX2.1 2, .inl (cA 0, 6, .inl (fun _ => 0))), (uX2.1 3, .inl (cA 0, 6, .inl (fun _ => 0))), (uX2.1 4, .inl (cA 0, 56, .inl (fun _ => 0))), (uX2.1 5, .inl (cA 0, 56, .inl (fun _ => 0))), (uX2.1 6, .inl (cA 0, 36, .inl (fun _ => 0)))] := hD
  refine lv_aload_n hx hb dI7_39 rfl (lv_at hl 0 rfl) ?_
  refine va_new (ci := 0) (fs := [.null]) (C := RX0) (T := TX0) (N := 1) hx hb hts (cls_ok 0 _ rfl).1 tyX0 tyX0_ok hown (hts _ tb_X7_n31) (hts _ tb_X7_m31) (hts _ tb_X7_i31) hK hP hD hS hA rfl z_X0 (Nat.le_of_ble_eq_true rfl) (Nat.le_of_ble_eq_true rfl) dI7_40 (fun oX0 H hP hD hS => ?_)
  have hP : va_P D vwCl [(h0, .inr (5, [.ref oX1, .ref qS, .int 0, .ref oX2, .null, .null, .null])), (oX1, .inr (1, [.int (MG.1 2 0), .int (MG.1 2 1), .int (MG.1 2 2), .long (MG.2 2 3), .long (MG.2 2 4), .long (MG.2 2 5), .ref qG])), (qG, .inl (cA 0, 36, .inl (MG.1 3))), (qS, .inl (cA 1, 30, .inr (.inl (fun _ => 0)))), (oX2, .inr (2, [.ref (uX2.1 0), .ref (uX2.1 1), .ref (uX2.1 2), .ref (uX2.1 3), .ref (uX2.1 4), .ref (uX2.1 5), .ref (uX2.1 6), .int 0, .int 0, .int 0])), (uX2.1 0, .inl (cA 0, 6, .inl (fun _ => 0))), (uX2.1 1, .inl (cA 0, 6, .inl (fun _ => 0))), (uX2.1 2, .inl (cA 0, 6, .inl (fun _ => 0))), (uX2.1 3, .inl (cA 0, 6, .inl (fun _ => 0))), (uX2.1 4, .inl (cA 0, 56, .inl (fun _ => 0))), (uX2.1 5, .inl (cA 0, 56, .inl (fun _ => 0))), (uX2.1 6, .inl (cA 0, 36, .inl (fun _ => 0))), (oX0, .inr (0, [.null]))] H := hP
  have hD : va_D A [(h0, .inr (5, [.ref oX1, .ref qS, .int 0, .ref oX2, .null, .null, .null])), (oX1, .inr (1, [.int (MG.1 2 0), .int (MG.1 2 1), .int (MG.1 2 2), .long (MG.2 2 3), .long (MG.2 2 4), .long (MG.2 2 5), .ref qG])), (qG, .inl (cA 0, 36, .inl (MG.1 3))), (qS, .inl (cA 1, 30, .inr (.inl (fun _ => 0)))), (oX2, .inr (2, [.ref (uX2.1 0), .ref (uX2.1 1), .ref (uX2.1 2), .ref (uX2.1 3), .ref (uX2.1 4), .ref (uX2.1 5), .ref (uX2.1 6), .int 0, .int 0, .int 0])), (uX2.1 0, .inl (cA 0, 6, .inl (fun _ => 0))), (uX2.1 1, .inl (cA 0, 6, .inl (fun _ => 0))), (uX2.1 2, .inl (cA 0, 6, .inl (fun _ => 0))), (uX2.1 3, .inl (cA 0, 6, .inl (fun _ => 0))), (uX2.1 4, .inl (cA 0, 56, .inl (fun _ => 0))), (uX2.1 5, .inl (cA 0, 56, .inl (fun _ => 0))), (uX2.1 6, .inl (cA 0, 36, .inl (fun _ => 0))), (oX0, .inr (0, [.null]))] := hD
  refine lv_dup hx hb dI7_43 rfl ?_
  have hPc := hP.sub (ws' := [(oX0, .inr (0, [.null]))]) [12] rfl
  have hDc := hD.sub (ws' := [(oX0, .inr (0, [.null]))]) [12] (by decide) rfl
  have hFc := va_free (wc := [(oX0, .inr (0, [.null]))]) hD hS hA [12] rfl
  refine va_callv (va_runIN (As := []) (rest := [.ref oX0, .ref h0]) ⟨hx, hb, hml, hown, hts⟩ (i_X0 l D oX0 H.size) ⟨va_cnB 0 hts (gin tb_X7_c31) rfl rfl rfl (hKW.2.2.2.2.1 _ tb_X7_l31) (hts _ tb_X7_i31) (by decide +kernel) ⟨Nat.le_of_ble_eq_true rfl, Nat.le_of_ble_eq_true rfl⟩, rfl, hts _ tb_X7_y31⟩ ⟨fun a U g mk q => by obtain ⟨q0, q1, qP, qK, qD⟩ := q; exact ⟨q0, q1, qP, va_K.moved (u := U) (U := U.calling g mk a) (Vm.Alike.refl U.vm) qK, qD⟩, fun U hU hW => ⟨rfl, by rw [hU], by rw [hU]; exact hPc, va_K.moved hW.alike hKn, hDc.weaken (fun _ _ _ _ => trivial)⟩⟩ rfl rfl hl.1 rfl (lv_room (Nat.le_of_ble_eq_true rfl)) dI7_44 ⟨Nat.le_of_ble_eq_true rfl, Nat.le_of_ble_eq_true rfl⟩) hS (fun q _ h => hFc q h) hFc (fun uX0 t H1 locs ht hvm hw hB hz1 hk1 hS => ?_)
  obtain ⟨hP1, hK1, hD1⟩ := hB
  rw [ht] at hP1
  have hK1 := va_K.moved hvm.symm hK1
  have eC : cA 0 = uX0.2 0 := K_int (hK.app hK1) 0 2 rfl rfl
  unfold wl_X0 at hP1 hD1
  rw [← eC] at hP1 hD1
  obtain ⟨hP, hD⟩ := va_join (wr := [(h0, .inr (5, [.ref oX1, .ref qS, .int 0, .ref oX2, .null, .null, .null])), (oX1, .inr (1, [.int (MG.1 2 0), .int (MG.1 2 1), .int (MG.1 2 2), .long (MG.2 2 3), .long (MG.2 2 4), .long (MG.2 2 5), .ref qG])), (qG, .inl (cA 0, 36, .inl (MG.1 3))), (qS, .inl (cA 1, 30, .inr (.inl (fun _ => 0)))), (oX2, .inr (2, [.ref (uX2.1 0), .ref (uX2.1 1), .ref (uX2.1 2), .ref (uX2.1 3), .ref (uX2.1 4), .ref (uX2.1 5), .ref (uX2.1 6), .int 0, .int 0, .int 0])), (uX2.1 0, .inl (cA 0, 6, .inl (fun _ => 0))), (uX2.1 1, .inl (cA 0, 6, .inl (fun _ => 0))), (uX2.1 2, .inl (cA 0, 6, .inl (fun _ => 0))), (uX2.1 3, .inl (cA 0, 6, .inl (fun _ => 0))), (uX2.1 4, .inl (cA 0, 56, .inl (fun _ => 0))), (uX2.1 5, .inl (cA 0, 56, .inl (fun _ => 0))), (uX2.1 6, .inl (cA 0, 36, .inl (fun _ => 0)))]) (w1 := [(oX0, .inr (0, [.ref (uX0.1 0)])), (uX0.1 0, .inl (cA 0, 1024, .inl (fun _ => 0)))]) hP hD [12] [0, 1, 2, 3, 4, 5, 6, 7, 8, 9, 10, 11] rfl rfl (by decide) (by decide) hk1 hFc hP1 hD1
  have hP : va_P D vwCl [(h0, .inr (5, [.ref oX1, .ref qS, .int 0, .ref oX2, .null, .null, .null])), (oX1, .inr (1, [.int (MG.1 2 0), .int (MG.1 2 1), .int (MG.1 2 2), .long (MG.2 2 3), .long (MG.2 2 4), .long (MG.2 2 5), .ref qG])), (qG, .inl (cA 0, 36, .inl (MG.1 3))), (qS, .inl (cA 1, 30, .inr (.inl (fun _ => 0)))), (oX2, .inr (2, [.ref (uX2.1 0), .ref (uX2.1 1), .ref (uX2.1 2), .ref (uX2.1 3), .ref (uX2.1 4), .ref (uX2.1 5), .ref (uX2.1 6), .int 0, .int 0, .int 0])), (uX2.1 0, .inl (cA 0, 6, .inl (fun _ => 0))), (uX2.1 1, .inl (cA 0, 6, .inl (fun _ => 0))), (uX2.1 2, .inl (cA 0, 6, .inl (fun _ => 0))), (uX2.1 3, .inl (cA 0, 6, .inl (fun _ => 0))), (uX2.1 4, .inl (cA 0, 56, .inl (fun _ => 0))), (uX2.1 5, .inl (cA 0, 56, .inl (fun _ => 0))), (uX2.1 6, .inl (cA 0, 36, .inl (fun _ => 0))), (oX0, .inr (0, [.ref (uX0.1 0)])), (uX0.1 0, .inl (cA 0, 1024, .inl (fun _ => 0)))] H1 := hP
  have hD : va_D A [(h0, .inr (5, [.ref oX1, .ref qS, .int 0, .ref oX2, .null, .null, .null])), (oX1, .inr (1, [.int (MG.1 2 0), .int (MG.1 2 1), .int (MG.1 2 2), .long (MG.2 2 3), .long (MG.2 2 4), .long (MG.2 2 5), .ref qG])), (qG, .inl (cA 0, 36, .inl (MG.1 3))), (qS, .inl (cA 1, 30, .inr (.inl (fun _ => 0)))), (oX2, .inr (2, [.ref (uX2.1 0), .ref (uX2.1 1), .ref (uX2.1 2), .ref (uX2.1 3), .ref (uX2.1 4), .ref (uX2.1 5), .ref (uX2.1 6), .int 0, .int 0, .int 0])), (uX2.1 0, .inl (cA 0, 6, .inl (fun _ => 0))), (uX2.1 1, .inl (cA 0, 6, .inl (fun _ => 0))), (uX2.1 2, .inl (cA 0, 6, .inl (fun _ => 0))), (uX2.1 3, .inl (cA 0, 6, .inl (fun _ => 0))), (uX2.1 4, .inl (cA 0, 56, .inl (fun _ => 0))), (uX2.1 5, .inl (cA 0, 56, .inl (fun _ => 0))), (uX2.1 6, .inl (cA 0, 36, .inl (fun _ => 0))), (oX0, .inr (0, [.ref (uX0.1 0)])), (uX0.1 0, .inl (cA 0, 1024, .inl (fun _ => 0)))] := hD
  refine va_putF (D := D) (ci := 5) (v := .ref oX0) (ty := .object "Sumsetry$Game") (C := RX7) (T := TX7) (N := 7) hx hb hts (cls_ok 5 _ rfl).1 tyX7 tyX7_ok nmX7 hown hK hP hD hS 0 rfl rfl 4 (by decide) (hts _ tb_X7_34) (fun _ h9 => h9) rfl hin rfl (by decide +kernel) rfl rfl (Nat.le_of_ble_eq_true rfl) dI7_47 (fun H locs hP hD hS => ?_)
  have hP : va_P D vwCl [(h0, .inr (5, [.ref oX1, .ref qS, .int 0, .ref oX2, .ref oX0, .null, .null])), (oX1, .inr (1, [.int (MG.1 2 0), .int (MG.1 2 1), .int (MG.1 2 2), .long (MG.2 2 3), .long (MG.2 2 4), .long (MG.2 2 5), .ref qG])), (qG, .inl (cA 0, 36, .inl (MG.1 3))), (qS, .inl (cA 1, 30, .inr (.inl (fun _ => 0)))), (oX2, .inr (2, [.ref (uX2.1 0), .ref (uX2.1 1), .ref (uX2.1 2), .ref (uX2.1 3), .ref (uX2.1 4), .ref (uX2.1 5), .ref (uX2.1 6), .int 0, .int 0, .int 0])), (uX2.1 0, .inl (cA 0, 6, .inl (fun _ => 0))), (uX2.1 1, .inl (cA 0, 6, .inl (fun _ => 0))), (uX2.1 2, .inl (cA 0, 6, .inl (fun _ => 0))), (uX2.1 3, .inl (cA 0, 6, .inl (fun _ => 0))), (uX2.1 4, .inl (cA 0, 56, .inl (fun _ => 0))), (uX2.1 5, .inl (cA 0, 56, .inl (fun _ => 0))), (uX2.1 6, .inl (cA 0, 36, .inl (fun _ => 0))), (oX0, .inr (0, [.ref (uX0.1 0)])), (uX0.1 0, .inl (cA 0, 1024, .inl (fun _ => 0)))] H := hP
  have hD : va_D A [(h0, .inr (5, [.ref oX1, .ref qS, .int 0, .ref oX2, .ref oX0, .null, .null])), (oX1, .inr (1, [.int (MG.1 2 0), .int (MG.1 2 1), .int (MG.1 2 2), .long (MG.2 2 3), .long (MG.2 2 4), .long (MG.2 2 5), .ref qG])), (qG, .inl (cA 0, 36, .inl (MG.1 3))), (qS, .inl (cA 1, 30, .inr (.inl (fun _ => 0)))), (oX2, .inr (2, [.ref (uX2.1 0), .ref (uX2.1 1), .ref (uX2.1 2), .ref (uX2.1 3), .ref (uX2.1 4), .ref (uX2.1 5), .ref (uX2.1 6), .int 0, .int 0, .int 0])), (uX2.1 0, .inl (cA 0, 6, .inl (fun _ => 0))), (uX2.1 1, .inl (cA 0, 6, .inl (fun _ => 0))), (uX2.1 2, .inl (cA 0, 6, .inl (fun _ => 0))), (uX2.1 3, .inl (cA 0, 6, .inl (fun _ => 0))), (uX2.1 4, .inl (cA 0, 56, .inl (fun _ => 0))), (uX2.1 5, .inl (cA 0, 56, .inl (fun _ => 0))), (uX2.1 6, .inl (cA 0, 36, .inl (fun _ => 0))), (oX0, .inr (0, [.ref (uX0.1 0)])), (uX0.1 0, .inl (cA 0, 1024, .inl (fun _ => 0)))] := hD
  refine lv_aload_n hx hb dI7_50 rfl (lv_at hl 0 rfl) ?_
  refine va_new (ci := 3) (fs := [.null, .null, .int 0]) (C := RX3) (T := TX3) (N := 3) hx hb hts (cls_ok 3 _ rfl).1 tyX3 tyX3_ok hown (hts _ tb_X7_n38) (hts _ tb_X7_m38) (hts _ tb_X7_i38) hK hP hD hS hA rfl z_X3 (Nat.le_of_ble_eq_true rfl) (Nat.le_of_ble_eq_true rfl) dI7_51 (fun oX3 H hP hD hS => ?_)
  have hP : va_P D vwCl [(h0, .inr (5, [.ref oX1, .ref qS, .int 0, .ref oX2, .ref oX0, .null, .null])), (oX1, .inr (1, [.int (MG.1 2 0), .int (MG.1 2 1), .int (MG.1 2 2), .long (MG.2 2 3), .long (MG.2 2 4), .long (MG.2 2 5), .ref qG])), (qG, .inl (cA 0, 36, .inl (MG.1 3))), (qS, .inl (cA 1, 30, .inr (.inl (fun _ => 0)))), (oX2, .inr (2, [.ref (uX2.1 0), .ref (uX2.1 1), .ref (uX2.1 2), .ref (uX2.1 3), .ref (uX2.1 4), .ref (uX2.1 5), .ref (uX2.1 6), .int 0, .int 0, .int 0])), (uX2.1 0, .inl (cA 0, 6, .inl (fun _ => 0))), (uX2.1 1, .inl (cA 0, 6, .inl (fun _ => 0))), (uX2.1 2, .inl (cA 0, 6, .inl (fun _ => 0))), (uX2.1 3, .inl (cA 0, 6, .inl (fun _ => 0))), (uX2.1 4, .inl (cA 0, 56, .inl (fun _ => 0))), (uX2.1 5, .inl (cA 0, 56, .inl (fun _ => 0))), (uX2.1 6, .inl (cA 0, 36, .inl (fun _ => 0))), (oX0, .inr (0, [.ref (uX0.1 0)])), (uX0.1 0, .inl (cA 0, 1024, .inl (fun _ => 0))), (oX3, .inr (3, [.null, .null, .int 0]))] H := hP
  have hD : va_D A [(h0, .inr (5, [.ref oX1, .ref qS, .int 0, .ref oX2, .ref oX0, .null, .null])), (oX1, .inr (1, [.int (MG.1 2 0), .int (MG.1 2 1), .int (MG.1 2 2), .long (MG.2 2 3), .long (MG.2 2 4), .long (MG.2 2 5), .ref qG])), (qG, .inl (cA 0, 36, .inl (MG.1 3))), (qS, .inl (cA 1, 30, .inr (.inl (fun _ => 0)))), (oX2, .inr (2, [.ref (uX2.1 0), .ref (uX2.1 1), .ref (uX2.1 2), .ref (uX2.1 3), .ref (uX2.1 4), .ref (uX2.1 5), .ref (uX2.1 6), .int 0, .int 0, .int 0])), (uX2.1 0, .inl (cA 0, 6, .inl (fun _ => 0))), (uX2.1 1, .inl (cA 0, 6, .inl (fun _ => 0))), (uX2.1 2, .inl (cA 0, 6, .inl (fun _ => 0))), (uX2.1 3, .inl (cA 0, 6, .inl (fun _ => 0))), (uX2.1 4, .inl (cA 0, 56, .inl (fun _ => 0))), (uX2.1 5, .inl (cA 0, 56, .inl (fun _ => 0))), (uX2.1 6, .inl (cA 0, 36, .inl (fun _ => 0))), (oX0, .inr (0, [.ref (uX0.1 0)])), (uX0.1 0, .inl (cA 0, 1024, .inl (fun _ => 0))), (oX3, .inr (3, [.null, .null, .int 0]))] := hD
  refine lv_dup hx hb dI7_54 rfl ?_
  have hPc := hP.sub (ws' := [(oX3, .inr (3, [.null, .null, .int 0]))]) [14] rfl
  have hDc := hD.sub (ws' := [(oX3, .inr (3, [.null, .null, .int 0]))]) [14] (by decide) rfl
  have hFc := va_free (wc := [(oX3, .inr (3, [.null, .null, .int 0]))]) hD hS hA [14] rfl
  refine va_callv (va_runIN (As := []) (rest := [.ref oX3, .ref h0]) ⟨hx, hb, hml, hown, hts⟩ (i_X3 l D oX3 H.size) ⟨va_cnB 0 hts (gin tb_X7_c38) rfl rfl rfl (hKW.2.2.2.2.1 _ tb_X7_l38) (hts _ tb_X7_i38) (by decide +kernel) ⟨Nat.le_of_ble_eq_true rfl, Nat.le_of_ble_eq_true rfl⟩, rfl, hts _ tb_X7_y38⟩ ⟨fun a U g mk q => by obtain ⟨q0, q1, qP, qK, qD⟩ := q; exact ⟨q0, q1, qP, va_K.moved (u := U) (U := U.calling g mk a) (Vm.Alike.refl U.vm) qK, qD⟩, fun U hU hW => ⟨rfl, by rw [hU], by rw [hU]; exact hPc, va_K.moved hW.alike hKn, hDc.weaken (fun _ _ _ _ => trivial)⟩⟩ rfl rfl hl.1 rfl (lv_room (Nat.le_of_ble_eq_true rfl)) dI7_55 ⟨Nat.le_of_ble_eq_true rfl, Nat.le_of_ble_eq_true rfl⟩) hS (fun q _ h => hFc q h) hFc (fun uX3 t H1 locs ht hvm hw hB hz1 hk1 hS => ?_)
  obtain ⟨hP1, hK1, hD1⟩ := hB
  rw [ht] at hP1
  have hK1 := va_K.moved hvm.symm hK1
  have eC : cA 0 = uX3.2 0 := K_int (hK.app hK1) 0 2 rfl rfl
  unfold wl_X3 at hP1 hD1
  rw [← eC] at hP1 hD1
  obtain ⟨hP, hD⟩ := va_join (wr := [(h0, .inr (5, [.ref oX1, .ref qS, .int 0, .ref oX2, .ref oX0, .null, .null])), (oX1, .inr (1, [.int (MG.1 2 0), .int (MG.1 2 1), .int (MG.1 2 2), .long (MG.2 2 3), .long (MG.2 2 4), .long (MG.2 2 5), .ref qG])), (qG, .inl (cA 0, 36, .inl (MG.1 3))), (qS, .inl (cA 1, 30, .inr (.inl (fun _ => 0)))), (oX2, .inr (2, [.ref (uX2.1 0), .ref (uX2.1 1), .ref (uX2.1 2), .ref (uX2.1 3), .ref (uX2.1 4), .ref (uX2.1 5), .ref (uX2.1 6), .int 0, .int 0, .int 0])), (uX2.1 0, .inl (cA 0, 6, .inl (fun _ => 0))), (uX2.1 1, .inl (cA 0, 6, .inl (fun _ => 0))), (uX2.1 2, .inl (cA 0, 6, .inl (fun _ => 0))), (uX2.1 3, .inl (cA 0, 6, .inl (fun _ => 0))), (uX2.1 4, .inl (cA 0, 56, .inl (fun _ => 0))), (uX2.1 5, .inl (cA 0, 56, .inl (fun _ => 0))), (uX2.1 6, .inl (cA 0, 36, .inl (fun _ => 0))), (oX0, .inr (0, [.ref (uX0.1 0)])), (uX0.1 0, .inl (cA 0, 1024, .inl (fun _ => 0)))]) (w1 := [(oX3, .inr (3, [.ref (uX3.1 0), .ref (uX3.1 1), .int 0])), (uX3.1 0, .inl (cA 0, 12, .inl (fun _ => 0))), (uX3.1 1, .inl (cA 0, 4096, .inl (fun _ => 0)))]) hP hD [14] [0, 1, 2, 3, 4, 5, 6, 7, 8, 9, 10, 11, 12, 13] rfl rfl (by decide) (by decide) hk1 hFc hP1 hD1
  have hP : va_P D vwCl [(h0, .inr (5, [.ref oX1, .ref qS, .int 0, .ref oX2, .ref oX0, .null, .null])), (oX1, .inr (1, [.int (MG.1 2 0), .int (MG.1 2 1), .int (MG.1 2 2), .long (MG.2 2 3), .long (MG.2 2 4), .long (MG.2 2 5), .ref qG])), (qG, .inl (cA 0, 36, .inl (MG.1 3))), (qS, .inl (cA 1, 30, .inr (.inl (fun _ => 0)))), (oX2, .inr (2, [.ref (uX2.1 0), .ref (uX2.1 1), .ref (uX2.1 2), .ref (uX2.1 3), .ref (uX2.1 4), .ref (uX2.1 5), .ref (uX2.1 6), .int 0, .int 0, .int 0])), (uX2.1 0, .inl (cA 0, 6, .inl (fun _ => 0))), (uX2.1 1, .inl (cA 0, 6, .inl (fun _ => 0))), (uX2.1 2, .inl (cA 0, 6, .inl (fun _ => 0))), (uX2.1 3, .inl (cA 0, 6, .inl (fun _ => 0))), (uX2.1 4, .inl (cA 0, 56, .inl (fun _ => 0))), (uX2.1 5, .inl (cA 0, 56, .inl (fun _ => 0))), (uX2.1 6, .inl (cA 0, 36, .inl (fun _ => 0))), (oX0, .inr (0, [.ref (uX0.1 0)])), (uX0.1 0, .inl (cA 0, 1024, .inl (fun _ => 0))), (oX3, .inr (3, [.ref (uX3.1 0), .ref (uX3.1 1), .int 0])), (uX3.1 0, .inl (cA 0, 12, .inl (fun _ => 0))), (uX3.1 1, .inl (cA 0, 4096, .inl (fun _ => 0)))] H1 := hP
  have hD : va_D A [(h0, .inr (5, [.ref oX1, .ref qS, .int 0, .ref oX2, .ref oX0, .null, .null])), (oX1, .inr (1, [.int (MG.1 2 0), .int (MG.1 2 1), .int (MG.1 2 2), .long (MG.2 2 3), .long (MG.2 2 4), .long (MG.2 2 5), .ref qG])), (qG, .inl (cA 0, 36, .inl (MG.1 3))), (qS, .inl (cA 1, 30, .inr (.inl (fun _ => 0)))), (oX2, .inr (2, [.ref (uX2.1 0), .ref (uX2.1 1), .ref (uX2.1 2), .ref (uX2.1 3), .ref (uX2.1 4), .ref (uX2.1 5), .ref (uX2.1 6), .int 0, .int 0, .int 0])), (uX2.1 0, .inl (cA 0, 6, .inl (fun _ => 0))), (uX2.1 1, .inl (cA 0, 6, .inl (fun _ => 0))), (uX2.1 2, .inl (cA 0, 6, .inl (fun _ => 0))), (uX2.1 3, .inl (cA 0, 6, .inl (fun _ => 0))), (uX2.1 4, .inl (cA 0, 56, .inl (fun _ => 0))), (uX2.1 5, .inl (cA 0, 56, .inl (fun _ => 0))), (uX2.1 6, .inl (cA 0, 36, .inl (fun _ => 0))), (oX0, .inr (0, [.ref (uX0.1 0)])), (uX0.1 0, .inl (cA 0, 1024, .inl (fun _ => 0))), (oX3, .inr (3, [.ref (uX3.1 0), .ref (uX3.1 1), .int 0])), (uX3.1 0, .inl (cA 0, 12, .inl (fun _ => 0))), (uX3.1 1, .inl (cA 0, 4096, .inl (fun _ => 0)))] := hD
  refine va_putF (D := D) (ci := 5) (v := .ref oX3) (ty := .object "Sumsetry$Row") (C := RX7) (T := TX7) (N := 7) hx hb hts (cls_ok 5 _ rfl).1 tyX7 tyX7_ok nmX7 hown hK hP hD hS 0 rfl rfl 5 (by decide) (hts _ tb_X7_41) (fun _ h9 => h9) rfl hin rfl (by decide +kernel) rfl rfl (Nat.le_of_ble_eq_true rfl) dI7_58 (fun H locs hP hD hS => ?_)
  have hP : va_P D vwCl [(h0, .inr (5, [.ref oX1, .ref qS, .int 0, .ref oX2, .ref oX0, .ref oX3, .null])), (oX1, .inr (1, [.int (MG.1 2 0), .int (MG.1 2 1), .int (MG.1 2 2), .long (MG.2 2 3), .long (MG.2 2 4), .long (MG.2 2 5), .ref qG])), (qG, .inl (cA 0, 36, .inl (MG.1 3))), (qS, .inl (cA 1, 30, .inr (.inl (fun _ => 0)))), (oX2, .inr (2, [.ref (uX2.1 0), .ref (uX2.1 1), .ref (uX2.1 2), .ref (uX2.1 3), .ref (uX2.1 4), .ref (uX2.1 5), .ref (uX2.1 6), .int 0, .int 0, .int 0])), (uX2.1 0, .inl (cA 0, 6, .inl (fun _ => 0))), (uX2.1 1, .inl (cA 0, 6, .inl (fun _ => 0))), (uX2.1 2, .inl (cA 0, 6, .inl (fun _ => 0))), (uX2.1 3, .inl (cA 0, 6, .inl (fun _ => 0))), (uX2.1 4, .inl (cA 0, 56, .inl (fun _ => 0))), (uX2.1 5, .inl (cA 0, 56, .inl (fun _ => 0))), (uX2.1 6, .inl (cA 0, 36, .inl (fun _ => 0))), (oX0, .inr (0, [.ref (uX0.1 0)])), (uX0.1 0, .inl (cA 0, 1024, .inl (fun _ => 0))), (oX3, .inr (3, [.ref (uX3.1 0), .ref (uX3.1 1), .int 0])), (uX3.1 0, .inl (cA 0, 12, .inl (fun _ => 0))), (uX3.1 1, .inl (cA 0, 4096, .inl (fun _ => 0)))] H := hP
  have hD : va_D A [(h0, .inr (5, [.ref oX1, .ref qS, .int 0, .ref oX2, .ref oX0, .ref oX3, .null])), (oX1, .inr (1, [.int (MG.1 2 0), .int (MG.1 2 1), .int (MG.1 2 2), .long (MG.2 2 3), .long (MG.2 2 4), .long (MG.2 2 5), .ref qG])), (qG, .inl (cA 0, 36, .inl (MG.1 3))), (qS, .inl (cA 1, 30, .inr (.inl (fun _ => 0)))), (oX2, .inr (2, [.ref (uX2.1 0), .ref (uX2.1 1), .ref (uX2.1 2), .ref (uX2.1 3), .ref (uX2.1 4), .ref (uX2.1 5), .ref (uX2.1 6), .int 0, .int 0, .int 0])), (uX2.1 0, .inl (cA 0, 6, .inl (fun _ => 0))), (uX2.1 1, .inl (cA 0, 6, .inl (fun _ => 0))), (uX2.1 2, .inl (cA 0, 6, .inl (fun _ => 0))), (uX2.1 3, .inl (cA 0, 6, .inl (fun _ => 0))), (uX2.1 4, .inl (cA 0, 56, .inl (fun _ => 0))), (uX2.1 5, .inl (cA 0, 56, .inl (fun _ => 0))), (uX2.1 6, .inl (cA 0, 36, .inl (fun _ => 0))), (oX0, .inr (0, [.ref (uX0.1 0)])), (uX0.1 0, .inl (cA 0, 1024, .inl (fun _ => 0))), (oX3, .inr (3, [.ref (uX3.1 0), .ref (uX3.1 1), .int 0])), (uX3.1 0, .inl (cA 0, 12, .inl (fun _ => 0))), (uX3.1 1, .inl (cA 0, 4096, .inl (fun _ => 0)))] := hD
  refine lv_aload_n hx hb dI7_61 rfl (lv_at hl 0 rfl) ?_
  refine va_new (ci := 4) (fs := [.int 0, .int 0, .null]) (C := RX6) (T := TX6) (N := 3) hx hb hts (cls_ok 4 _ rfl).1 tyX6 tyX6_ok hown (hts _ tb_X7_n45) (hts _ tb_X7_m45) (hts _ tb_X7_i45) hK hP hD hS hA rfl z_X6 (Nat.le_of_ble_eq_true rfl) (Nat.le_of_ble_eq_true rfl) dI7_62 (fun oX6 H hP hD hS => ?_)
  have hP : va_P D vwCl [(h0, .inr (5, [.ref oX1, .ref qS, .int 0, .ref oX2, .ref oX0, .ref oX3, .null])), (oX1, .inr (1, [.int (MG.1 2 0), .int (MG.1 2 1), .int (MG.1 2 2), .long (MG.2 2 3), .long (MG.2 2 4), .long (MG.2 2 5), .ref qG])), (qG, .inl (cA 0, 36, .inl (MG.1 3))), (qS, .inl (cA 1, 30, .inr (.inl (fun _ => 0)))), (oX2, .inr (2, [.ref (uX2.1 0), .ref (uX2.1 1), .ref (uX2.1 2), .ref (uX2.1 3), .ref (uX2.1 4), .ref (uX2.1 5), .ref (uX2.1 6), .int 0, .int 0, .int 0])), (uX2.1 0, .inl (cA 0, 6, .inl (fun _ => 0))), (uX2.1 1, .inl (cA 0, 6, .inl (fun _ => 0))), (uX2.1 2, .inl (cA 0, 6, .inl (fun _ => 0))), (uX2.1 3, .inl (cA 0, 6, .inl (fun _ => 0))), (uX2.1 4, .inl (cA 0, 56, .inl (fun _ => 0))), (uX2.1 5, .inl (cA 0, 56, .inl (fun _ => 0))), (uX2.1 6, .inl (cA 0, 36, .inl (fun _ => 0))), (oX0, .inr (0, [.ref (uX0.1 0)])), (uX0.1 0, .inl (cA 0, 1024, .inl (fun _ => 0))), (oX3, .inr (3, [.ref (uX3.1 0), .ref (uX3.1 1), .int 0])), (uX3.1 0, .inl (cA 0, 12, .inl (fun _ => 0))), (uX3.1 1, .inl (cA 0, 4096, .inl (fun _ => 0))), (oX6, .inr (4, [.int 0, .int 0, .null]))] H := hP
  have hD : va_D A [(h0, .inr (5, [.ref oX1, .ref qS, .int 0, .ref oX2, .ref oX0, .ref oX3, .null])), (oX1, .inr (1, [.int (MG.1 2 0), .int (MG.1 2 1), .int (MG.1 2 2), .long (MG.2 2 3), .long (MG.2 2 4), .long (MG.2 2 5), .ref qG])), (qG, .inl (cA 0, 36, .inl (MG.1 3))), (qS, .inl (cA 1, 30, .inr (.inl (fun _ => 0)))), (oX2, .inr (2, [.ref (uX2.1 0), .ref (uX2.1 1), .ref (uX2.1 2), .ref (uX2.1 3), .ref (uX2.1 4), .ref (uX2.1 5), .ref (uX2.1 6), .int 0, .int 0, .int 0])), (uX2.1 0, .inl (cA 0, 6, .inl (fun _ => 0))), (uX2.1 1, .inl (cA 0, 6, .inl (fun _ => 0))), (uX2.1 2, .inl (cA 0, 6, .inl (fun _ => 0))), (uX2.1 3, .inl (cA 0, 6, .inl (fun _ => 0))), (uX2.1 4, .inl (cA 0, 56, .inl (fun _ => 0))), (uX2.1 5, .inl (cA 0, 56, .inl (fun _ => 0))), (uX2.1 6, .inl (cA 0, 36, .inl (fun _ => 0))), (oX0, .inr (0, [.ref (uX0.1 0)])), (uX0.1 0, .inl (cA 0, 1024, .inl (fun _ => 0))), (oX3, .inr (3, [.ref (uX3.1 0), .ref (uX3.1 1), .int 0])), (uX3.1 0, .inl (cA 0, 12, .inl (fun _ => 0))), (uX3.1 1, .inl (cA 0, 4096, .inl (fun _ => 0))), (oX6, .inr (4, [.int 0, .int 0, .null]))] := hD
  refine lv_dup hx hb dI7_65 rfl ?_
  have hPc := hP.sub (ws' := [(oX6, .inr (4, [.int 0, .int 0, .null]))]) [17] rfl
  have hDc := hD.sub (ws' := [(oX6, .inr (4, [.int 0, .int 0, .null]))]) [17] (by decide) rfl
  have hFc := va_free (wc := [(oX6, .inr (4, [.int 0, .int 0, .null]))]) hD hS hA [17] rfl
  refine va_callv (va_runIN (As := []) (rest := [.ref oX6, .ref h0]) ⟨hx, hb, hml, hown, hts⟩ (i_X6 l D oX6 H.size) ⟨va_cnB 0 hts (gin tb_X7_c45) rfl rfl rfl (hKW.2.2.2.2.1 _ tb_X7_l45) (hts _ tb_X7_i45) (by decide +kernel) ⟨Nat.le_of_ble_eq_true rfl, Nat.le_of_ble_eq_true rfl⟩, rfl, hts _ tb_X7_y45⟩ ⟨fun a U g mk q => by obtain ⟨q0, q1, qP, qK, qD⟩ := q; exact ⟨q0, q1, qP, va_K.moved (u := U) (U := U.calling g mk a) (Vm.Alike.refl U.vm) qK, qD⟩, fun U hU hW => ⟨rfl, by rw [hU], by rw [hU]; exact hPc, va_K.moved hW.alike hKn, hDc.weaken (fun _ _ _ _ => trivial)⟩⟩ rfl rfl hl.1 rfl (lv_room (Nat.le_of_ble_eq_true rfl)) dI7_66 ⟨Nat.le_of_ble_eq_true rfl, Nat.le_of_ble_eq_true rfl⟩) hS (fun q _ h => hFc q h) hFc (fun uX6 t H1 locs ht hvm hw hB hz1 hk1 hS => ?_)
  obtain ⟨hP1, hK1, hD1⟩ := hB
  rw [ht] at hP1
  have hK1 := va_K.moved hvm.symm hK1
  have eC : cA 0 = uX6.2 0 := K_int (hK.app hK1) 0 2 rfl rfl
  unfold wl_X6 at hP1 hD1
  rw [← eC] at hP1 hD1
  obtain ⟨hP, hD⟩ := va_join (wr := [(h0, .inr (5, [.ref oX1, .ref qS, .int 0, .ref oX2, .ref oX0, .ref oX3, .null])), (oX1, .inr (1, [.int (MG.1 2 0), .int (MG.1 2 1), .int (MG.1 2 2), .long (MG.2 2 3), .long (MG.2 2 4), .long (MG.2 2 5), .ref qG])), (qG, .inl (cA 0, 36, .inl (MG.1 3))), (qS, .inl (cA 1, 30, .inr (.inl (fun _ => 0)))), (oX2, .inr (2, [.ref (uX2.1 0), .ref (uX2.1 1), .ref (uX2.1 2), .ref (uX2.1 3), .ref (uX2.1 4), .ref (uX2.1 5), .ref (uX2.1 6), .int 0, .int 0, .int 0])), (uX2.1 0, .inl (cA 0, 6, .inl (fun _ => 0))), (uX2.1 1, .inl (cA 0, 6, .inl (fun _ => 0))), (uX2.1 2, .inl (cA 0, 6, .inl (fun _ => 0))), (uX2.1 3, .inl (cA 0, 6, .inl (fun _ => 0))), (uX2.1 4, .inl (cA 0, 56, .inl (fun _ => 0))), (uX2.1 5, .inl (cA 0, 56, .inl (fun _ => 0))), (uX2.1 6, .inl (cA 0, 36, .inl (fun _ => 0))), (oX0, .inr (0, [.ref (uX0.1 0)])), (uX0.1 0, .inl (cA 0, 1024, .inl (fun _ => 0))), (oX3, .inr (3, [.ref (uX3.1 0), .ref (uX3.1 1), .int 0])), (uX3.1 0, .inl (cA 0, 12, .inl (fun _ => 0))), (uX3.1 1, .inl (cA 0, 4096, .inl (fun _ => 0)))]) (w1 := [(oX6, .inr (4, [.int 0, .int 0, .ref (uX6.1 0)])), (uX6.1 0, .inl (cA 0, 36, .inl (fun _ => 0)))]) hP hD [17] [0, 1, 2, 3, 4, 5, 6, 7, 8, 9, 10, 11, 12, 13, 14, 15, 16] rfl rfl (by decide) (by decide) hk1 hFc hP1 hD1
  have hP : va_P D vwCl [(h0, .inr (5, [.ref oX1, .ref qS, .int 0, .ref oX2, .ref oX0, .ref oX3, .null])), (oX1, .inr (1, [.int (MG.1 2 0), .int (MG.1 2 1), .int (MG.1 2 2), .long (MG.2 2 3), .long (MG.2 2 4), .long (MG.2 2 5), .ref qG])), (qG, .inl (cA 0, 36, .inl (MG.1 3))), (qS, .inl (cA 1, 30, .inr (.inl (fun _ => 0)))), (oX2, .inr (2, [.ref (uX2.1 0), .ref (uX2.1 1), .ref (uX2.1 2), .ref (uX2.1 3), .ref (uX2.1 4), .ref (uX2.1 5), .ref (uX2.1 6), .int 0, .int 0, .int 0])), (uX2.1 0, .inl (cA 0, 6, .inl (fun _ => 0))), (uX2.1 1, .inl (cA 0, 6, .inl (fun _ => 0))), (uX2.1 2, .inl (cA 0, 6, .inl (fun _ => 0))), (uX2.1 3, .inl (cA 0, 6, .inl (fun _ => 0))), (uX2.1 4, .inl (cA 0, 56, .inl (fun _ => 0))), (uX2.1 5, .inl (cA 0, 56, .inl (fun _ => 0))), (uX2.1 6, .inl (cA 0, 36, .inl (fun _ => 0))), (oX0, .inr (0, [.ref (uX0.1 0)])), (uX0.1 0, .inl (cA 0, 1024, .inl (fun _ => 0))), (oX3, .inr (3, [.ref (uX3.1 0), .ref (uX3.1 1), .int 0])), (uX3.1 0, .inl (cA 0, 12, .inl (fun _ => 0))), (uX3.1 1, .inl (cA 0, 4096, .inl (fun _ => 0))), (oX6, .inr (4, [.int 0, .int 0, .ref (uX6.1 0)])), (uX6.1 0, .inl (cA 0, 36, .inl (fun _ => 0)))] H1 := hP
  have hD : va_D A [(h0, .inr (5, [.ref oX1, .ref qS, .int 0, .ref oX2, .ref oX0, .ref oX3, .null])), (oX1, .inr (1, [.int (MG.1 2 0), .int (MG.1 2 1), .int (MG.1 2 2), .long (MG.2 2 3), .long (MG.2 2 4), .long (MG.2 2 5), .ref qG])), (qG, .inl (cA 0, 36, .inl (MG.1 3))), (qS, .inl (cA 1, 30, .inr (.inl (fun _ => 0)))), (oX2, .inr (2, [.ref (uX2.1 0), .ref (uX2.1 1), .ref (uX2.1 2), .ref (uX2.1 3), .ref (uX2.1 4), .ref (uX2.1 5), .ref (uX2.1 6), .int 0, .int 0, .int 0])), (uX2.1 0, .inl (cA 0, 6, .inl (fun _ => 0))), (uX2.1 1, .inl (cA 0, 6, .inl (fun _ => 0))), (uX2.1 2, .inl (cA 0, 6, .inl (fun _ => 0))), (uX2.1 3, .inl (cA 0, 6, .inl (fun _ => 0))), (uX2.1 4, .inl (cA 0, 56, .inl (fun _ => 0))), (uX2.1 5, .inl (cA 0, 56, .inl (fun _ => 0))), (uX2.1 6, .inl (cA 0, 36, .inl (fun _ => 0))), (oX0, .inr (0, [.ref (uX0.1 0)])), (uX0.1 0, .inl (cA 0, 1024, .inl (fun _ => 0))), (oX3, .inr (3, [.ref (uX3.1 0), .ref (uX3.1 1), .int 0])), (uX3.1 0, .inl (cA 0, 12, .inl (fun _ => 0))), (uX3.1 1, .inl (cA 0, 4096, .inl (fun _ => 0))), (oX6, .inr (4, [.int 0, .int 0, .ref (uX6.1 0)])), (uX6.1 0, .inl (cA 0, 36, .inl (fun _ => 0)))] := hD
  refine va_putF (D := D) (ci := 5) (v := .ref oX6) (ty := .object "Sumsetry$Transforms") (C := RX7) (T := TX7) (N := 7) hx hb hts (cls_ok 5 _ rfl).1 tyX7 tyX7_ok nmX7 hown hK hP hD hS 0 rfl rfl 6 (by decide) (hts _ tb_X7_48) (fun _ h9 => h9) rfl hin rfl (by decide +kernel) rfl rfl (Nat.le_of_ble_eq_true rfl) dI7_69 (fun H locs hP hD hS => ?_)
  have hP : va_P D vwCl [(h0, .inr (5, [.ref oX1, .ref qS, .int 0, .ref oX2, .ref oX0, .ref oX3, .ref oX6])), (oX1, .inr (1, [.int (MG.1 2 0), .int (MG.1 2 1), .int (MG.1 2 2), .long (MG.2 2 3), .long (MG.2 2 4), .long (MG.2 2 5), .ref qG])), (qG, .inl (cA 0, 36, .inl (MG.1 3))), (qS, .inl (cA 1, 30, .inr (.inl (fun _ => 0)))), (oX2, .inr (2, [.ref (uX2.1 0), .ref (uX2.1 1), .ref (uX2.1 2), .ref (uX2.1 3), .ref (uX2.1 4), .ref (uX2.1 5), .ref (uX2.1 6), .int 0, .int 0, .int 0])), (uX2.1 0, .inl (cA 0, 6, .inl (fun _ => 0))), (uX2.1 1, .inl (cA 0, 6, .inl (fun _ => 0))), (uX2.1 2, .inl (cA 0, 6, .inl (fun _ => 0))), (uX2.1 3, .inl (cA 0, 6, .inl (fun _ => 0))), (uX2.1 4, .inl (cA 0, 56, .inl (fun _ => 0))), (uX2.1 5, .inl (cA 0, 56, .inl (fun _ => 0))), (uX2.1 6, .inl (cA 0, 36, .inl (fun _ => 0))), (oX0, .inr (0, [.ref (uX0.1 0)])), (uX0.1 0, .inl (cA 0, 1024, .inl (fun _ => 0))), (oX3, .inr (3, [.ref (uX3.1 0), .ref (uX3.1 1), .int 0])), (uX3.1 0, .inl (cA 0, 12, .inl (fun _ => 0))), (uX3.1 1, .inl (cA 0, 4096, .inl (fun _ => 0))), (oX6, .inr (4, [.int 0, .int 0, .ref (uX6.1 0)])), (uX6.1 0, .inl (cA 0, 36, .inl (fun _ => 0)))] H := hP
  have hD : va_D A [(h0, .inr (5, [.ref oX1, .ref qS, .int 0, .ref oX2, .ref oX0, .ref oX3, .ref oX6])), (oX1, .inr (1, [.int (MG.1 2 0), .int (MG.1 2 1), .int (MG.1 2 2), .long (MG.2 2 3), .long (MG.2 2 4), .long (MG.2 2 5), .ref qG])), (qG, .inl (cA 0, 36, .inl (MG.1 3))), (qS, .inl (cA 1, 30, .inr (.inl (fun _ => 0)))), (oX2, .inr (2, [.ref (uX2.1 0), .ref (uX2.1 1), .ref (uX2.1 2), .ref (uX2.1 3), .ref (uX2.1 4), .ref (uX2.1 5), .ref (uX2.1 6), .int 0, .int 0, .int 0])), (uX2.1 0, .inl (cA 0, 6, .inl (fun _ => 0))), (uX2.1 1, .inl (cA 0, 6, .inl (fun _ => 0))), (uX2.1 2, .inl (cA 0, 6, .inl (fun _ => 0))), (uX2.1 3, .inl (cA 0, 6, .inl (fun _ => 0))), (uX2.1 4, .inl (cA 0, 56, .inl (fun _ => 0))), (uX2.1 5, .inl (cA 0, 56, .inl (fun _ => 0))), (uX2.1 6, .inl (cA 0, 36, .inl (fun _ => 0))), (oX0, .inr (0, [.ref (uX0.1 0)])), (uX0.1 0, .inl (cA 0, 1024, .inl (fun _ => 0))), (oX3, .inr (3, [.ref (uX3.1 0), .ref (uX3.1 1), .int 0])), (uX3.1 0, .inl (cA 0, 12, .inl (fun _ => 0))), (uX3.1 1, .inl (cA 0, 4096, .inl (fun _ => 0))), (oX6, .inr (4, [.int 0, .int 0, .ref (uX6.1 0)])), (uX6.1 0, .inl (cA 0, 36, .inl (fun _ => 0)))] := hD
  have hP9 := hP.sub (ws' := wl (D, cA, (fun k => match k with | 0 => h0 | 1 => qS | 2 => oX1 | 3 => qG | 4 => oX2 | 5 => uX2.1 0 | 6 => uX2.1 1 | 7 => uX2.1 2 | 8 => uX2.1 3 | 9 => uX2.1 4 | 10 => uX2.1 5 | 11 => uX2.1 6 | 12 => oX0 | 13 => uX0.1 0 | 14 => oX3 | 15 => uX3.1 0 | 16 => uX3.1 1 | 17 => oX6 | _ => uX6.1 0), lo) (Mz MG) cs7) [0, 3, 1, 2, 4, 5, 6, 7, 8, 9, 10, 11, 12, 13, 14, 15, 16, 17, 18] rfl
  have hD9 := hD.sub (ws' := wl (D, cA, (fun k => match k with | 0 => h0 | 1 => qS | 2 => oX1 | 3 => qG | 4 => oX2 | 5 => uX2.1 0 | 6 => uX2.1 1 | 7 => uX2.1 2 | 8 => uX2.1 3 | 9 => uX2.1 4 | 10 => uX2.1 5 | 11 => uX2.1 6 | 12 => oX0 | 13 => uX0.1 0 | 14 => oX3 | 15 => uX3.1 0 | 16 => uX3.1 1 | 17 => oX6 | _ => uX6.1 0), lo) (Mz MG) cs7) [0, 3, 1, 2, 4, 5, 6, 7, 8, 9, 10, 11, 12, 13, 14, 15, 16, 17, 18] (by decide) rfl
  exact W.vret hx hb hr (fun t ht hW => ⟨⟨(_, MG), rfl, trivial, ⟨hgi, rfl⟩, by rw [ht]; exact hP9, hD9⟩, hS.F ht⟩) hS.2.2 dI7_72
