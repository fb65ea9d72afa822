/-! THE LAW'S PREFIX: the house, the model, the row for answers -/
theorem dL_0 : decode code 0 = .ok (.new 8, 3) := by decide +kernel
theorem dL_3 : decode code 3 = .ok (.dup, 1) := by decide +kernel
theorem dL_4 : decode code 4 = .ok (.invokespecial 115, 3) := by decide +kernel
theorem dL_7 : decode code 7 = .ok (.astore_n 1, 1) := by decide +kernel
theorem dL_8 : decode code 8 = .ok (.new 116, 3) := by decide +kernel
theorem dL_11 : decode code 11 = .ok (.dup, 1) := by decide +kernel
theorem dL_12 : decode code 12 = .ok (.invokespecial 118, 3) := by decide +kernel
theorem dL_15 : decode code 15 = .ok (.astore_n 2, 1) := by decide +kernel
theorem dL_16 : decode code 16 = .ok (.iconst 1, 1) := by decide +kernel
theorem dL_17 : decode code 17 = .ok (.newarray .long, 2) := by decide +kernel
theorem dL_19 : decode code 19 = .ok (.astore_n 3, 1) := by decide +kernel
theorem tl_1 : Cond.classLink "SumsetryLaw" 8 RX7 ∈ TB := by decide +kernel
theorem tl_2 : Cond.classLink "SumsetryLaw" 116 RX8 ∈ TB := by decide +kernel
theorem tl_3 : Cond.initialized RX7 ∈ TB := by decide +kernel
theorem tl_4 : Cond.initialized RX8 ∈ TB := by decide +kernel
theorem tl_5 : Cond.methodLink "SumsetryLaw" 115 yX7_init ∈ TB := by decide +kernel
theorem tl_6 : Cond.methodLink "SumsetryLaw" 118 yX8_init ∈ TB := by decide +kernel
theorem tl_7 : Cond.instanceMethod yX7_init ∈ TB := by decide +kernel
theorem tl_8 : Cond.instanceMethod yX8_init ∈ TB := by decide +kernel
theorem tl_9 : Cond.code yX7_init cX7_init 1 none ∈ TB := by decide +kernel
theorem tl_10 : Cond.code yX8_init cX8_init 1 none ∈ TB := by decide +kernel
theorem z_X7 (j : Nat) (hj : j < 7) : defaultValue (tyX7 j) = vp_V [.null, .null, .int 0, .null, .null, .null, .null] j := match j, hj with
  | 0, _ => rfl
  | 1, _ => rfl
  | 2, _ => rfl
  | 3, _ => rfl
  | 4, _ => rfl
  | 5, _ => rfl
  | 6, _ => rfl
  | j + 7, h => absurd h (by omega)
set_option maxHeartbeats 4000000 in
set_option maxRecDepth 100000 in
theorem law_pre1 {p : Program} {e : Env} {s : State} {m : MethodId} {below : List Frame} {meth : Method} {c : Code} {Q : State → Prop} (l : Launch) (hst : l.stackTraces = false) {b : Nat} (hx : p.tables.exec = Jvm.exec) (hb : c.code = code) (hml : c.maxLocals = 8) (hown : s.vm.findClass "SumsetryLaw" = some m.cls) (hts : ∀ w ∈ TB, w.before #[Value.ref b] s = true) {D : va_G} {cA : Nat → ClassId} (hKW : ∀ ad, KW (D, cA, ad, s.heap.size) s)
    (kk : ∀ (a : Nat → Nat) (MG : Mem) (H : Heap) (locs : List Loc) (ls : Array Slot), GI MG 1 1 → va_P D vwCl (wl (D, cA, a, s.heap.size) (Mz MG) cs7) H → va_D (fun q : Nat => s.heap.size ≤ q) (wl (D, cA, a, s.heap.size) (Mz MG) cs7) → va_S (fun q : Nat => s.heap.size ≤ q) s.heap H locs → lv_has ls 8 [(1, .ref (a 0)), (0, .ref b)] → W p l e room_1 s m #[Value.ref b] below meth c H locs 19 5437 Q (F0 m 8 ls [])) :
    W p l e room_1 s m #[Value.ref b] below meth c s.heap [] 0 0 Q (entryFrame m ([Value.ref b] : List Value).toArray 8) := by
  have hA : ∀ q : Nat, s.heap.size ≤ q → (fun q : Nat => s.heap.size ≤ q) q := fun _ h => h
  have hS : va_S (fun q : Nat => s.heap.size ≤ q) s.heap s.heap [] := va_S.rf
  have hK := (hKW id).1
  have hP : va_P D vwCl [] s.heap := fun k q h => by simp at h
  have hD : va_D (fun q : Nat => s.heap.size ≤ q) [] := ⟨fun i j p q h => by simp at h, fun k q h => by simp at h⟩
  have hl := lv_entry ([.ref b]) (n := 8) (Nat.le_of_ble_eq_true rfl)
  rw [lg_entry_eq]
  generalize (lg_sl ([.ref b]) ++ List.replicate (8 - (lg_sl ([.ref b])).length) Slot.unset).toArray = ls at hl ⊢
  have hl : lv_has ls 8 [(0, .ref b)] := hl
  refine va_new (ci := 5) (fs := [.null, .null, .int 0, .null, .null, .null, .null]) (C := RX7) (T := TX7) (N := 7) hx hb hts (cls_ok 5 _ rfl).1 tyX7 tyX7_ok hown (hts _ tl_1) (hts _ tb_m7) (hts _ tl_3) hK hP hD hS hA rfl z_X7 (Nat.le_of_ble_eq_true rfl) (Nat.le_of_ble_eq_true rfl) dL_0 (fun o H hP hD hS => ?_)
  have hP : va_P D vwCl [(o, .inr (5, [.null, .null, .int 0, .null, .null, .null, .null]))] H := hP
  have hD : va_D (fun q : Nat => s.heap.size ≤ q) [(o, .inr (5, [.null, .null, .int 0, .null, .null, .null, .null]))] := hD
  refine lv_dup hx hb dL_3 rfl ?_
  have hFc := va_free (wc := [(o, .inr (5, [.null, .null, .int 0, .null, .null, .null, .null]))]) hD hS hA [0] rfl
  have ho : s.heap.size ≤ o ∧ s.heap.size ≤ H.size := ⟨hD.2 0 _ rfl, hS.1⟩
  refine va_callv (va_runI (As := []) (rest := [.ref o]) ⟨hx, hb, hml, hown, hts⟩ (i_X7 l hst D cA id s.heap.size o H.size ho) (cwI 0 hts (gin tl_9) rfl rfl rfl (hts _ tl_3) (hts _ tl_5) (hts _ tl_7) rfl (by decide +kernel) ⟨Nat.le_of_ble_eq_true rfl, Nat.le_of_ble_eq_true rfl⟩) ⟨fun a U g mk q => by obtain ⟨q0, q1, qP, qK, qD⟩ := q; exact ⟨q0, q1, qP, qK.blind, qD⟩, fun U hU hW => ⟨rfl, by rw [hU], by rw [hU]; exact hP, (hKW id).move hU hW hS (fun q h => h), hD.weaken (fun _ _ _ _ => trivial)⟩⟩ rfl rfl hl.1 rfl (lv_room (Nat.le_of_ble_eq_true rfl)) dL_4 ⟨Nat.le_of_ble_eq_true rfl, Nat.le_of_ble_eq_true rfl⟩) hS (fun q _ h => hFc q h) hFc (fun u t H1 locs ht hvm hw hB hz1 hk1 hS => ?_)
  obtain ⟨⟨hgi, ha0⟩, hP1, hD1⟩ := hB
  rw [ht] at hP1
  obtain ⟨a, MG⟩ := u
  obtain ⟨hP9, hD9⟩ := va_join (wr := []) (w1 := wl (D, cA, a, s.heap.size) (Mz MG) cs7) hP hD [0] [] rfl rfl (by decide) (by decide) hk1 hFc hP1 hD1
  have ha0 : a 0 = o := ha0
  subst ha0
  refine lv_astore_n (lv' := [(1, .ref (a 0)), (0, .ref b)]) hx hb dL_7 rfl hl (by decide) rfl (fun ls hl => ?_)
  exact kk a MG H1 locs ls hgi hP9 hD9 hS hl
