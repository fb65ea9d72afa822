/-! THE LAW'S ENTRY: what its houses answer, its own house, its end -/
theorem v_methodLink_SumsetryLaw_234 : Cond.methodLink RL 234 yL_seven ∈ TB := tb_i 761 (by decide +kernel) (by rfl)
set_option maxRecDepth 100000 in
theorem v_code_SumsetryLaw_seven___Z : Cond.code yL_seven cL_seven 1 (some .boolean) ∈ TB := tb_i 763 (by rfl) (by rfl)
theorem v_static_SumsetryLaw_seven___Z : Cond.static yL_seven ∈ TB := tb_i 762 (by decide +kernel) (by rfl)
theorem cl_234 : CallOK RL [] 28 (234, 0, 0, 0, 9208, fn_one) :=
  Or.inr ⟨yL_seven, cL_seven, 1, (some .boolean), none, 27, ok_L_seven [], by decide, by decide, v_code_SumsetryLaw_seven___Z, v_initialized_SumsetryLaw, ⟨by decide, by decide⟩, Or.inl ⟨rfl, show (parseMethodDescriptor yL_seven.desc).map (fun d => d.parameters.length) = some 0 from by decide +kernel, v_methodLink_SumsetryLaw_234, v_static_SumsetryLaw_seven___Z⟩⟩
def t_pre : List (Nat × Instr × Nat) := [(0, .invokestatic 234, 3), (3, .ifCond .ne 5, 3)]
theorem tk_pre : ∀ x ∈ t_pre, decode code x.1 = .ok x.2 := by decide +kernel
def C_pre : Cfg := (t_pre, [], [], [(234, 0, 0, 0, 9208, fn_one)], [], [], [], [], none, some .boolean, 9208)
theorem cfg_pre : CfgOK RL code C_pre 28 := ⟨tk_pre, List.nodup_nil, fun e h => absurd h List.not_mem_nil, List.forall_mem_cons.mpr ⟨cl_234, fun e h => absurd h List.not_mem_nil⟩, fun e h => absurd h List.not_mem_nil, fun e h => absurd h List.not_mem_nil, fun e h => absurd h List.not_mem_nil, (fun h hh => absurd hh List.not_mem_nil)⟩
theorem run_pre : run C_pre 2 (0, [some (.ref 30), none, none, none, none, none, none, none, none, none, none, none, none, none, none, none, none, none], [], M0, 0) = some (.inl (8, [some (.ref 30), none, none, none, none, none, none, none, none, none, none, none, none, none, none, none, none, none], [], M0, 9208)) := by rfl
theorem dl_8 : decode code 8 = .ok (.new 8, 3) := by decide +kernel
theorem dl_11 : decode code 11 = .ok (.dup, 1) := by decide +kernel
theorem dl_12 : decode code 12 = .ok (.invokespecial 151, 3) := by decide +kernel
theorem dl_15 : decode code 15 = .ok (.astore_n 1, 1) := by decide +kernel
def adB (a : Nat → Nat) (b k : Nat) : Nat := match k with
  | 30 => b
  | k => a k
set_option maxHeartbeats 8000000 in
set_option maxRecDepth 100000 in
theorem law_house {p : Program} {e : Env} {s : State} {m : MethodId} {below : List Frame} {meth : Method} {c : Code} {Q : State → Prop} (l : Launch) (hst : l.stackTraces = false) {b : Nat} (hx : p.tables.exec = Jvm.exec) (hb : c.code = code) (hml : c.maxLocals = 18) (hown : s.vm.findClass RL = some m.cls) (hts : ∀ w ∈ TB, w.before #[Value.ref b] s = true) {D : va_G} {cA : Nat → ClassId} (hKW : ∀ ad, KW (D, cA, ad, s.heap.size) s)
    {H : Heap} {locs : List Loc} {ls : Array Slot} (hS : va_S (fun q : Nat => s.heap.size ≤ q) s.heap H locs) (hl : lv_has ls 18 [(0, .ref b)])
    (kk : ∀ (ad : Nat → Nat) (MG : Mem) (H : Heap) (locs : List Loc) (ls : Array Slot), ad 30 = b → GI MG 1 1 → va_P D vwCl (wl (D, cA, ad, s.heap.size) (Mz MG) csF) H → va_D (fun q : Nat => s.heap.size ≤ q) (wl (D, cA, ad, s.heap.size) (Mz MG) csF) → va_S (fun q : Nat => s.heap.size ≤ q) s.heap H locs → lv_has ls 18 [(1, .ref (ad 0)), (0, .ref b)] → W p l e room_1 s m #[Value.ref b] below meth c H locs 9227 60685 Q (F0 m 16 ls [])) :
    W p l e room_1 s m #[Value.ref b] below meth c H locs 9208 55248 Q (F0 m 8 ls []) := by
  have hA : ∀ q : Nat, s.heap.size ≤ q → (fun q : Nat => s.heap.size ≤ q) q := fun _ h => h
  have hK := (hKW id).1
  have hP : va_P D vwCl [] H := fun k q h => by simp at h
  have hD : va_D (fun q : Nat => s.heap.size ≤ q) [] := ⟨fun i j p q h => by simp at h, fun k q h => by simp at h⟩
  refine va_new (ci := 5) (fs := [.null, .null, .int 0, .null, .null, .null, .null]) (C := RX7) (T := TX7) (N := 7) hx hb hts (cls_ok 5 _ rfl).1 tyX7 tyX7_ok hown (hts _ v_classLink_SumsetryLaw_8) (hts _ tb_m7) (hts _ v_initialized_Sumsetry) hK hP hD hS hA rfl z_X7 (Nat.le_of_ble_eq_true rfl) (Nat.le_of_ble_eq_true rfl) dl_8 (fun o H hP hD hS => ?_)
  have hP : va_P D vwCl [(o, .inr (5, [.null, .null, .int 0, .null, .null, .null, .null]))] H := hP
  have hD : va_D (fun q : Nat => s.heap.size ≤ q) [(o, .inr (5, [.null, .null, .int 0, .null, .null, .null, .null]))] := hD
  refine lv_dup hx hb dl_11 rfl ?_
  have hFc := va_free (wc := [(o, .inr (5, [.null, .null, .int 0, .null, .null, .null, .null]))]) hD hS hA [0] rfl
  have ho : s.heap.size ≤ o ∧ s.heap.size ≤ H.size := ⟨hD.2 0 _ rfl, hS.1⟩
  refine va_callv (va_runI (As := []) (rest := [.ref o]) ⟨hx, hb, hml, hown, hts⟩ (i_X7 l hst D cA id s.heap.size o H.size ho) (cwI 0 hts (gin v_code_Sumsetry__init____V) rfl rfl rfl (hts _ v_initialized_Sumsetry) (hts _ v_methodLink_SumsetryLaw_151) (hts _ v_instanceMethod_Sumsetry__init____V) rfl (by decide +kernel) ⟨Nat.le_of_ble_eq_true rfl, Nat.le_of_ble_eq_true rfl⟩) ⟨fun a U g mk q => by obtain ⟨q0, q1, qP, qK, qD⟩ := q; exact ⟨q0, q1, qP, qK.blind, qD⟩, fun U hU hW => ⟨rfl, by rw [hU], by rw [hU]; exact hP, (hKW id).move hU hW hS (fun q h => h), hD.weaken (fun _ _ _ _ => trivial)⟩⟩ rfl rfl hl.1 rfl (lv_room (Nat.le_of_ble_eq_true rfl)) dl_12 ⟨Nat.le_of_ble_eq_true rfl, Nat.le_of_ble_eq_true rfl⟩) hS (fun q _ h => hFc q h) hFc (fun u t H1 locs ht hvm hw hB hz1 hk1 hS => ?_)
  obtain ⟨⟨hgi, ha0⟩, hP1, hD1⟩ := hB
  rw [ht] at hP1
  obtain ⟨a, MG⟩ := u
  obtain ⟨hP9, hD9⟩ := va_join (wr := []) (w1 := wl (D, cA, a, s.heap.size) (Mz MG) cs7) hP hD [0] [] rfl rfl (by decide) (by decide) hk1 hFc hP1 hD1
  have ha0 : a 0 = o := ha0
  subst ha0
  refine lv_astore_n (lv' := [(1, .ref (a 0)), (0, .ref b)]) hx hb dl_15 rfl hl (by decide) rfl (fun ls hl => ?_)
  have hP8 : va_P D vwCl (wl (D, cA, adB a b, s.heap.size) (Mz MG) csF) H1 := hP9
  have hD8 : va_D (fun q : Nat => s.heap.size ≤ q) (wl (D, cA, adB a b, s.heap.size) (Mz MG) csF) := hD9
  exact kk (adB a b) MG H1 locs ls rfl hgi hP8 hD8 hS hl
theorem law_lv {D : va_G} {cA : Nat → ClassId} {ad : Nat → Nat} {n b : Nat} {ls : Array Slot} (hl : lv_has ls 18 [(1, .ref (ad 0)), (0, .ref b)]) (had : ad 30 = b) : lv_has ls 18 (lvl (D, cA, ad, n) [some (.ref 30), some (.ref 0), none, none, none, none, none, none, none, none, none, none, none, none, none, none, none, none]) := by
  refine lv_less hl (fun q hq => ?_)
  have hq : q ∈ [((0 : Nat), Value.ref (ad 30)), (1, .ref (ad 0))] := hq
  rw [had] at hq
  simp only [List.mem_cons, List.not_mem_nil, or_false] at hq ⊢
  rcases hq with rfl | rfl <;> simp
/-- the law's own machine, to its end -/
abbrev QL (below : List Frame) (G : Gh) (b : Nat) (s : State) : State → Prop := vx_MQ below (QcW G [] (.inl (some (.int 1))) M0 s.heap.size) (XcW G [] (.inl (some (.int 1))) M0 s.heap.size) #[Value.ref b] s 611110 7268293 (AG G [] s.heap.size)
set_option maxHeartbeats 4000000 in
theorem law_body {p : Program} {l : Launch} {e : Env} {s : State} {m : MethodId} {b L : Nat} {xs : Nat → Int32} {below : List Frame} {meth : Method} {c : Code} {D : va_G} {cA : Nat → ClassId} {ad a0 : Nat → Nat} {MG : Mem} {H : Heap} {locs : List Loc} {ls : Array Slot}
    (hst : l.stackTraces = false) (hKW : ∀ ad, KW (D, cA, ad, s.heap.size) s) (had : ad 30 = b) (hscr : va_X b L xs s s.heap) (hbs : b < s.heap.size) (hL : L < 100000)
    (hP : va_P D vwCl (wl (D, cA, ad, s.heap.size) (Mz MG) csF) H) (hD : va_D (fun q : Nat => s.heap.size ≤ q) (wl (D, cA, ad, s.heap.size) (Mz MG) csF)) (hS : va_S (fun q : Nat => s.heap.size ≤ q) s.heap H locs) (hl : lv_has ls 18 [(1, .ref (ad 0)), (0, .ref b)])
    (hfix : p.tables.exec = Jvm.exec ∧ c.code = code ∧ c.maxLocals = 18 ∧ s.vm.findClass RL = some m.cls ∧ ∀ w ∈ TB, w.before #[Value.ref b] s = true) (hlk : meth.locks = false) (hret : meth.sig.returnType = some .boolean) (htab : c.exceptionTable.toList = []) (hgi : GI MG 1 1) :
    W p l e room_1 s m #[Value.ref b] below meth c H locs 9227 60685 (QL below (D, cA, a0, s.heap.size) b s) (F0 m 16 ls []) := by
  have gok := own_gok (Nat.le_refl s.heap.size) hD
  have gad := own_ad hD
  have hA1 : ∀ q, (fun q : Nat => s.heap.size ≤ q) q → AG (D, cA, ad, s.heap.size) csF s.heap.size q := fun q h => Or.inr h
  have hA2 : ∀ q, AG (D, cA, ad, s.heap.size) csF s.heap.size q → s.heap.size ≤ q := by
    rintro q (⟨k, hk, rfl⟩ | h)
    · exact gad k hk
    · exact h
  obtain ⟨Mf, nn, kk, hr⟩ := law_run (xs := xs) hL hgi
  have X : CxS p l room_1 s m #[Value.ref b] meth c (D, cA, ad, s.heap.size) (C_L_law (some (L, xs))) 18 s.heap.size 180000 26 (9227, 60685, 611110, 7268293) code RL :=
    ⟨hfix, hKW ad, gok, rfl, csF_nd, hst, hlk, hret, rfl, Nat.le_of_ble_eq_true rfl, Nat.le_of_ble_eq_true rfl, Nat.le_of_ble_eq_true rfl, Nat.le_of_ble_eq_true rfl, ⟨Nat.le_of_ble_eq_true rfl, Nat.le_of_ble_eq_true rfl⟩, by rw [htab]; rfl⟩
  have hSc : ScrOK (C_L_law (some (L, xs))) (D, cA, ad, s.heap.size) (AG (D, cA, ad, s.heap.size) csF s.heap.size) s := by
    intro L' xs' h2
    have h2 : (some (L, xs) : Option (Nat × (Nat → Int32))) = some (L', xs') := h2
    cases h2
    show va_X (ad 30) L xs s s.heap ∧ ad 30 < s.heap.size ∧ ¬ AG (D, cA, ad, s.heap.size) csF s.heap.size (ad 30)
    rw [had]
    exact ⟨hscr, hbs, fun h => absurd hbs (Nat.not_lt.mpr (hA2 b h))⟩
  have hA9 := runA_ok (e := e) (below := below) (o0 := .inl (some (.int 1))) (M0 := Mf) X (cfg_L_law _) hSc nn _ _ hr ⟨rfl, rfl⟩
  have hW := hA9 H locs ls hP (hS.to9 hA1) rfl (law_lv hl had)
  refine W.mono9 hW ?_
  rintro t ⟨o, t1, t2, ⟨⟨⟨v, v1, v2, v3⟩, v4⟩, L9, f1, f2⟩ | ⟨z, -, E, ce, L9, ⟨hE, -⟩, -⟩⟩
  · have hF : va_F (fun q : Nat => s.heap.size ≤ q) s t := v4.to9 hA2
    refine ⟨o, t1, t2, Or.inl ⟨⟨⟨v, v1, ?_, ?_⟩, hF.to9 fun q h => Or.inr h⟩, L9, f1, fun x hx => Or.inr (hA2 _ (f2 x hx))⟩⟩
    · rw [v2]
      cases v1
      rfl
    · exact fun k q h => by simp [wl] at h
  · cases hE
