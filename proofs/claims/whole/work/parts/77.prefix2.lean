/-! THE MODEL AND THE ROW FOR ANSWERS -/
theorem z_X8 (j : Nat) (hj : j < 16) : defaultValue (tyX8 j) = vp_V [.int 0, .int 0, .int 0, .null, .int 0, .null, .int 0, .int 0, .null, .null, .null, .null, .null, .null, .null, .int 0] j := match j, hj with
  | 0, _ => rfl
  | 1, _ => rfl
  | 2, _ => rfl
  | 3, _ => rfl
  | 4, _ => rfl
  | 5, _ => rfl
  | 6, _ => rfl
  | 7, _ => rfl
  | 8, _ => rfl
  | 9, _ => rfl
  | 10, _ => rfl
  | 11, _ => rfl
  | 12, _ => rfl
  | 13, _ => rfl
  | 14, _ => rfl
  | 15, _ => rfl
  | j + 16, h => absurd h (by omega)
set_option maxHeartbeats 8000000 in
set_option maxRecDepth 100000 in
theorem law_pre2 {p : Program} {e : Env} {s : State} {m : MethodId} {below : List Frame} {meth : Method} {c : Code} {Q : State → Prop} (l : Launch) {b : Nat} (hx : p.tables.exec = Jvm.exec) (hb : c.code = code) (hml : c.maxLocals = 8) (hown : s.vm.findClass "SumsetryLaw" = some m.cls) (hts : ∀ w ∈ TB, w.before #[Value.ref b] s = true) {D : va_G} {cA : Nat → ClassId} (hKW : ∀ ad, KW (D, cA, ad, s.heap.size) s)
    {a : Nat → Nat} {MG : Mem} {H : Heap} {locs : List Loc} {ls : Array Slot} (hP : va_P D vwCl (wl (D, cA, a, s.heap.size) (Mz MG) cs7) H) (hD : va_D (fun q : Nat => s.heap.size ≤ q) (wl (D, cA, a, s.heap.size) (Mz MG) cs7)) (hS : va_S (fun q : Nat => s.heap.size ≤ q) s.heap H locs) (hl : lv_has ls 8 [(1, .ref (a 0)), (0, .ref b)])
    (kk : ∀ (ad : Nat → Nat) (H : Heap) (locs : List Loc) (ls : Array Slot), ad 30 = b → va_P D vwCl (wl (D, cA, ad, s.heap.size) (MF MG) csF) H → va_D (fun q : Nat => s.heap.size ≤ q) (wl (D, cA, ad, s.heap.size) (MF MG) csF) → va_S (fun q : Nat => s.heap.size ≤ q) s.heap H locs → lv_has ls 8 [(3, .ref (ad 29)), (2, .ref (ad 19)), (1, .ref (ad 0)), (0, .ref b)] → W p l e room_1 s m #[Value.ref b] below meth c H locs 30 8652 Q (F0 m 20 ls [])) :
    W p l e room_1 s m #[Value.ref b] below meth c H locs 19 5437 Q (F0 m 8 ls []) := by
  have hA : ∀ q : Nat, s.heap.size ≤ q → (fun q : Nat => s.heap.size ≤ q) q := fun _ h => h
  have hK := (hKW id).1
  have hKn : va_K D vwCl [] s := hK.sub (tys' := []) [] rfl
  refine va_new (ci := 6) (fs := [.int 0, .int 0, .int 0, .null, .int 0, .null, .int 0, .int 0, .null, .null, .null, .null, .null, .null, .null, .int 0]) (C := RX8) (T := TX8) (N := 16) hx hb hts (cls_ok 6 _ rfl).1 tyX8 tyX8_ok hown (hts _ tl_2) (hts _ tb_m8) (hts _ tl_4) hK hP hD hS hA rfl z_X8 (Nat.le_of_ble_eq_true rfl) (Nat.le_of_ble_eq_true rfl) dL_8 (fun o2 H hP hD hS => ?_)
  refine lv_dup hx hb dL_11 rfl ?_
  have hPc := hP.sub (ws' := [(o2, .inr (6, [.int 0, .int 0, .int 0, .null, .int 0, .null, .int 0, .int 0, .null, .null, .null, .null, .null, .null, .null, .int 0]))]) [19] rfl
  have hDc := hD.sub (ws' := [(o2, .inr (6, [.int 0, .int 0, .int 0, .null, .int 0, .null, .int 0, .int 0, .null, .null, .null, .null, .null, .null, .null, .int 0]))]) [19] (by decide) rfl
  have hFc := va_free (wc := [(o2, .inr (6, [.int 0, .int 0, .int 0, .null, .int 0, .null, .int 0, .int 0, .null, .null, .null, .null, .null, .null, .null, .int 0]))]) hD hS hA [19] rfl
  refine va_callv (va_runI (As := []) (rest := [.ref o2]) ⟨hx, hb, hml, hown, hts⟩ (i_X8 l D o2 H.size) (cwI 0 hts (gin tl_10) rfl rfl rfl (hts _ tl_4) (hts _ tl_6) (hts _ tl_8) rfl (by decide +kernel) ⟨Nat.le_of_ble_eq_true rfl, Nat.le_of_ble_eq_true rfl⟩) ⟨fun a U g mk q => by obtain ⟨q0, q1, qP, qK, qD⟩ := q; exact ⟨q0, q1, qP, va_K.moved (u := U) (U := U.calling g mk a) (Vm.Alike.refl U.vm) qK, qD⟩, fun U hU hW => ⟨rfl, by rw [hU], by rw [hU]; exact hPc, va_K.moved hW.alike hKn, hDc.weaken (fun _ _ _ _ => trivial)⟩⟩ rfl rfl hl.1 rfl (lv_room (Nat.le_of_ble_eq_true rfl)) dL_12 ⟨Nat.le_of_ble_eq_true rfl, Nat.le_of_ble_eq_true rfl⟩) hS (fun q _ h => hFc q h) hFc (fun u8 t H1 locs ht hvm hw hB hz1 hk1 hS => ?_)
  obtain ⟨hP1, hK1, hD1⟩ := hB
  rw [ht] at hP1
  have hK1 := va_K.moved hvm.symm hK1
  have eI : cA 0 = u8.2 0 := K_int (hK.app hK1) 0 4 rfl rfl
  have eJ : cA 1 = u8.2 1 := K_long (hK.app hK1) 1 3 rfl rfl
  have eZ : cA 2 = u8.2 2 := K_boolean (hK.app hK1) 2 5 rfl rfl
  unfold wl_X8 at hP1 hD1
  rw [← eI, ← eJ, ← eZ] at hP1 hD1
  obtain ⟨hP, hD⟩ := va_join (wr := wl (D, cA, a, s.heap.size) (Mz MG) cs7) (w1 := [(o2, .inr (6, [.int 1, .int 1, .int 0, .ref (u8.1 0), .int 0, .ref (u8.1 1), .int 0, .int 0, .ref (u8.1 2), .ref (u8.1 3), .ref (u8.1 4), .ref (u8.1 5), .ref (u8.1 6), .ref (u8.1 7), .ref (u8.1 8), .int 0])), ((u8.1 0), .inl (cA 1, 30, .inr (.inl (fun _ => 0)))), ((u8.1 1), .inl (cA 0, 12, .inl (fun _ => 0))), ((u8.1 2), .inl (cA 0, 36, .inl (fun _ => 0))), ((u8.1 3), .inl (cA 0, 36, .inl (fun _ => 0))), ((u8.1 4), .inl (cA 0, 6, .inl (fun _ => 0))), ((u8.1 5), .inl (cA 0, 6, .inl (fun _ => 0))), ((u8.1 6), .inl (cA 2, 1024, .inl (fun _ => 0))), ((u8.1 7), .inl (cA 2, 1024, .inl (fun _ => 0))), ((u8.1 8), .inl (cA 2, 1024, .inl (fun _ => 0)))]) hP hD [19] (List.range 19) rfl rfl (by decide) (by decide) hk1 hFc hP1 hD1
  refine lv_astore_n (lv' := [(2, .ref o2), (1, .ref (a 0)), (0, .ref b)]) hx hb dL_15 rfl hl (by decide) rfl (fun ls hl => ?_)
  refine lv_iconst hx hb dL_16 (v := 1) (by decide +kernel) ?_
  refine va_newa (atype := .long) (ty := .long) (N' := 1) (a0 := (1, .inr (.inl (fun _ => 0)))) hx hb (hts _ tb_aJ) rfl hK hP hD hS hA (fun _ => rfl) (by decide) (by decide) (Nat.le_of_ble_eq_true rfl) (Nat.le_of_ble_eq_true rfl) (Nat.le_of_ble_eq_true rfl) dL_17 (fun q cN H hK2 hP hD hS => ?_)
  have eN : cA 1 = cN := K_long hK2 1 3 rfl rfl
  subst eN
  refine lv_astore_n (lv' := [(3, .ref q), (2, .ref o2), (1, .ref (a 0)), (0, .ref b)]) hx hb dL_19 rfl hl (by decide) rfl (fun ls hl => ?_)
  have hP9 := hP.sub (ws' := wl (D, cA, (fun k => match k with | 19 => o2 | 20 => u8.1 0 | 21 => u8.1 1 | 22 => u8.1 2 | 23 => u8.1 3 | 24 => u8.1 4 | 25 => u8.1 5 | 26 => u8.1 6 | 27 => u8.1 7 | 28 => u8.1 8 | 29 => q | 30 => b | k => a k), s.heap.size) (MF MG) csF) (List.range 30) rfl
  have hD9 := hD.sub (ws' := wl (D, cA, (fun k => match k with | 19 => o2 | 20 => u8.1 0 | 21 => u8.1 1 | 22 => u8.1 2 | 23 => u8.1 3 | 24 => u8.1 4 | 25 => u8.1 5 | 26 => u8.1 6 | 27 => u8.1 7 | 28 => u8.1 8 | 29 => q | 30 => b | k => a k), s.heap.size) (MF MG) csF) (List.range 30) (by decide) rfl
  exact kk _ _ _ ls rfl hP9 hD9 hS hl
