/-! THE CONSTRUCTORS -/
def wC (y : MethodName) (cc : ByteArray) : List Cond := Cond.code y cc 1 none :: TB
theorem dI0_0 : decode cX0_init 0 = .ok (.aload_n 0, 1) := by decide +kernel
theorem dI0_1 : decode cX0_init 1 = .ok (.invokespecial 3, 3) := by decide +kernel
theorem dI0_4 : decode cX0_init 4 = .ok (.aload_n 0, 1) := by decide +kernel
theorem dI0_5 : decode cX0_init 5 = .ok (.sipush 1024, 3) := by decide +kernel
theorem dI0_8 : decode cX0_init 8 = .ok (.newarray .int, 2) := by decide +kernel
theorem dI0_10 : decode cX0_init 10 = .ok (.putfield 9, 3) := by decide +kernel
theorem dI0_13 : decode cX0_init 13 = .ok (.return_, 1) := by decide +kernel
theorem tb_obj : Cond.instanceMethod objectInit ∈ TB ∧ Cond.code objectInit ⟨#[0xb1]⟩ 1 none ∈ TB := by decide +kernel
theorem tb_arr : Cond.arrayClass .int ∈ TB ∧ Cond.arrayClass .long ∈ TB ∧ Cond.arrayClass .boolean ∈ TB := by decide +kernel
theorem tb_X0 : Cond.methodLink RX0 3 objectInit ∈ TB ∧ Cond.fieldLink RX0 9 "Sumsetry$Game" "lost" "[I" ∈ TB := by decide +kernel
set_option maxHeartbeats 4000000 in
set_option maxRecDepth 100000 in
theorem i_X0 (l : Launch) (D : va_G) (h0 sz : Nat) : Met l yX0_init (wC yX0_init cX0_init) ({ frames := 1, cells := 1, slots := 1024, locals := 12 }) (va_Pc [.ref h0] (fun U => U.heap.size = sz ∧ va_P D vwCl [(h0, .inr (0, [.null]))] U.heap ∧ va_K D vwCl [] U ∧ va_D (fun _ => True) [(h0, .inr (0, [.null]))])) (va_Qv (fun _ : Nat × ClassId => True) (fun u U => va_P D vwCl [(h0, .inr (0, [.ref u.1])), (u.1, .inl (u.2, 1024, .inl (fun _ => 0)))] U.heap ∧ va_K D vwCl [(u.2, .int)] U ∧ va_D (va_A [(h0, .inr (0, [.null]))] sz) [(h0, .inr (0, [.ref u.1])), (u.1, .inl (u.2, 1024, .inl (fun _ => 0)))]) (va_A [(h0, .inr (0, [.null]))] sz)) 1 1024 (va_A [(h0, .inr (0, [.null]))] sz) := by
  refine Met.ofW (cc := cX0_init) (maxL := 1) (ret := none) (by decide) rfl ?_
  intro p e s m args below meth c s₁ B hml hv
  obtain ⟨rfl, hsz, hP, hK, hD0⟩ := hv
  have hx := B.exec
  have hb := B.bytes
  have hr := B.returns
  have hts0 := atoms_spec (ws := wC yX0_init cX0_init) B.pre
  have hts : ∀ w ∈ TB, w.before _ s = true := fun w hw => hts0 w (List.mem_cons_of_mem _ hw)
  have hown : s.vm.findClass RX0 = some m.cls := findClass_of_methodNamed B.named
  have hin : meth.name = "<init>" := (name_of_methodNamed B.named B.method).1
  subst hsz
  have hD := hD0.self (sz := s.heap.size)
  generalize hAe : va_A [(h0, .inr (0, [.null]))] s.heap.size = A at hD ⊢
  have hA : ∀ q : Nat, s.heap.size ≤ q → A q := fun q h => by rw [← hAe]; exact Or.inr h
  have hS : va_S A s.heap s.heap [] := va_S.rf
  have hP : va_P D vwCl [(h0, .inr (0, [.null]))] s.heap := hP
  have hl := lv_entry ([.ref h0]) (n := 1) (Nat.le_of_ble_eq_true rfl)
  rw [lg_entry_eq]
  generalize (lg_sl ([.ref h0]) ++ List.replicate (1 - (lg_sl ([.ref h0])).length) Slot.unset).toArray = ls at hl ⊢
  have hl : lv_has ls 1 [(0, .ref h0)] := hl
  refine lv_aload_n hx hb dI0_0 rfl (lv_at hl 0 rfl) ?_
  refine W.objInit hx hb hown (hts _ tb_X0.1) (hts _ tb_obj.1) (hts _ tb_obj.2) rfl (by rw [hml]; exact hl.1) rfl dI0_1 (Nat.le_of_ble_eq_true rfl) (Nat.le_of_ble_eq_true rfl) ?_
  refine W.eq (g2 := F0 m 4 ls []) rfl ?_
  refine lv_aload_n hx hb dI0_4 rfl (lv_at hl 0 rfl) ?_
  refine lv_sipush hx hb dI0_5 (v := 1024) (by decide +kernel) ?_
  refine va_newa (atype := .int) (ty := .int) (N' := 1024) (a0 := (1024, .inl (fun _ => 0))) hx hb (hts _ tb_arr.1) rfl hK hP hD hS hA (fun _ => rfl) (by decide) (by decide) (Nat.le_of_ble_eq_true rfl) (Nat.le_of_ble_eq_true rfl) (Nat.le_of_ble_eq_true rfl) dI0_8 (fun q cA H hK hP hD hS => ?_)
  have hP : va_P D vwCl [(h0, .inr (0, [.null])), (q, .inl (cA, 1024, .inl (fun _ => 0)))] H := hP
  have hD : va_D A [(h0, .inr (0, [.null])), (q, .inl (cA, 1024, .inl (fun _ => 0)))] := hD
  have hK : va_K D vwCl [(cA, .int)] s := hK
  refine va_putF (D := D) (ci := 0) (v := .ref q) (ty := .array .int) (C := RX0) (T := TX0) (N := 1) hx hb hts (cls_ok 0 _ rfl).1 tyX0 tyX0_ok nmX0 hown hK hP hD hS 0 rfl rfl 0 (by decide) (hts _ tb_X0.2) (fun _ h9 => h9) rfl hin rfl (by decide +kernel) rfl rfl (Nat.le_of_ble_eq_true rfl) dI0_10 (fun H locs hP hD hS => ?_)
  have hP : va_P D vwCl [(h0, .inr (0, [.ref q])), (q, .inl (cA, 1024, .inl (fun _ => 0)))] H := hP
  have hD : va_D A [(h0, .inr (0, [.ref q])), (q, .inl (cA, 1024, .inl (fun _ => 0)))] := hD
  exact W.vret hx hb hr (fun t ht hW => ⟨⟨(q, cA), rfl, trivial, by rw [ht]; exact hP, va_K.moved hW.alike hK, hD⟩, hS.F ht⟩) hS.2.2 dI0_13
