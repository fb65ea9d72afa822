/-! THE GROUP'S CONSTRUCTOR: an array, then begin, by the machine -/
theorem dI1_0 : decode cX1_init 0 = .ok (.aload_n 0, 1) := by decide +kernel
theorem dI1_1 : decode cX1_init 1 = .ok (.invokespecial 3, 3) := by decide +kernel
theorem dI1_4 : decode cX1_init 4 = .ok (.aload_n 0, 1) := by decide +kernel
theorem dI1_5 : decode cX1_init 5 = .ok (.bipush 36, 2) := by decide +kernel
theorem dI1_7 : decode cX1_init 7 = .ok (.newarray .int, 2) := by decide +kernel
theorem dI1_9 : decode cX1_init 9 = .ok (.putfield 9, 3) := by decide +kernel
def t_X1_init : List (Nat × Instr × Nat) := [(12, .aload_n 0, 1), (13, .iconst 1, 1), (14, .iconst 1, 1), (15, .invokevirtual 15, 3), (18, .return_, 1)]
theorem tk_X1_init : ∀ x ∈ t_X1_init, decode cX1_init x.1 = .ok x.2 := by decide +kernel
def C_X1_init : Cfg := (t_X1_init, csS, fl_X1, [(15, 2, 1, 3, 0, fn_X1_begin)], in_X1, lg_X1, [], [], none, none, 0)
theorem tb_X1_o : Cond.methodLink RX1 3 objectInit ∈ TB := by decide +kernel
theorem tb_X1_9 : Cond.fieldLink RX1 9 "Sumsetry$Group" "less" "[I" ∈ TB := by decide +kernel
theorem tb_X1_c : wd1 yX1_begin cX1_begin 4 none none ∈ TB := by decide +kernel
theorem tb_X1_i : Cond.initialized yX1_begin.cls ∈ TB := by decide +kernel
theorem tb_X1_l : Cond.methodLink RX1 15 yX1_begin ∈ TB := by decide +kernel
theorem tb_X1_n : Cond.instanceMethod yX1_begin ∈ TB := by decide +kernel
theorem tb_X1_s : Cond.selects yX1_begin.cls yX1_begin yX1_begin ∈ TB := by decide +kernel
theorem cfg_X1_init : CfgOK RX1 cX1_init C_X1_init 4 := ⟨tk_X1_init, csS_nd, flk_X1, (List.forall_mem_cons.mpr ⟨Or.inr ⟨yX1_begin, cX1_begin, 4, none, none, 3, ok_X1_begins, by decide, by decide, tb_X1_c, tb_X1_i, ⟨by decide, by decide⟩, Or.inr (Or.inr ⟨rfl, rfl, show (parseMethodDescriptor yX1_begin.desc).map (fun d => d.parameters.length + 1) = some 3 from by decide +kernel, tb_X1_l, tb_X1_n, tb_X1_s, ⟨_, rfl, rfl⟩⟩)⟩, fun _ h => absurd h List.not_mem_nil⟩), ink_X1, lgk_X1, fun e h => absurd h List.not_mem_nil, (fun h hh => absurd hh List.not_mem_nil)⟩
set_option maxRecDepth 100000 in
theorem b_X1_init_0 : (fun (M : Mem) => run C_X1_init 3 (12, [some (.ref 2)], [], M, 0)) = (fun (M : Mem) => some (.inl (15, [some (.ref 2)], [.int (1 : Int32), .int (1 : Int32), .ref 2], M, 0))) := by rfl
set_option maxRecDepth 100000 in
theorem b_X1_init_1 : (fun (M : Mem) => run C_X1_init 1 (18, [some (.ref 2)], [], M, 0)) = (fun (M : Mem) => some (.inr (.inl none, M, 0))) := by rfl
theorem r_X1_init (M : Mem) : RG C_X1_init (12, [some (.ref 2)], [], M, 0) (onV (d_X1_begin (1 : Int32) (1 : Int32) M) (fun M1 => some (.inl none, M1)) (fun r => some r)) (fun r => .inr r) := by
  refine RG.st 3 (congrFun b_X1_init_0 M) ?_
  refine RG.callV (fun M1 h1 => RG.st 1 (run_callV (v := none) rfl rfl rfl rfl rfl h1) ?_) (fun E M1 h1 => RG.fin rfl (Rend.run 1 (run_callVx rfl rfl rfl rfl rfl h1 rfl)))
  show RG C_X1_init (18, [some (.ref 2)], [], M1, 0) _ _
  exact RG.fin rfl (Rend.run 1 (congrFun b_X1_init_1 M1))
theorem W.mono9 {p : Program} {l : Launch} {e : Env} {R : Room} {s : State} {m : MethodId} {args : Array Value} {below : List Frame} {meth : Method} {c : Code} {H : Heap} {locs : List Loc} {cells slots : Nat} {Q Q' : State → Prop} {g : JFrame} (h : W p l e R s m args below meth c H locs cells slots Q g) (f : ∀ t, Q t → Q' t) : W p l e R s m args below meth c H locs cells slots Q' g := by
  intro T hT X
  obtain ⟨t, a, b⟩ := h T hT X
  exact ⟨t, a, f t b⟩
theorem va_S.to9 {A B : Nat → Prop} {H0 H : Heap} {locs : List Loc} (h : va_S A H0 H locs) (f : ∀ q, A q → B q) : va_S B H0 H locs := ⟨h.1, fun q h1 h2 => h.2.1 q h1 (fun z => h2 (f q z)), fun z hz => f _ (h.2.2 z hz)⟩
theorem va_F.to9 {A B : Nat → Prop} {s t : State} (h : va_F A s t) (f : ∀ q, A q → B q) : va_F B s t := ⟨h.1, fun q h1 h2 => h.2 q h1 (fun z => h2 (f q z))⟩
def M0 : Mem := (fun _ _ => 0, fun _ _ => 0)
def ad2 (h0 q : Nat) : Nat → Nat := fun k => match k with
  | 2 => h0
  | _ => q
set_option maxHeartbeats 4000000 in
set_option maxRecDepth 100000 in
theorem i_X1 (l : Launch) (hst : l.stackTraces = false) (D : va_G) (cA : Nat → ClassId) (ad : Nat → Nat) (lo h0 sz : Nat) (hlo : lo ≤ h0 ∧ lo ≤ sz) : Met l yX1_init (wC yX1_init cX1_init) ({ frames := 5, cells := 1, slots := 36, locals := 300 }) (va_Pc [.ref h0] (fun U => U.heap.size = sz ∧ va_P D vwCl [(h0, .inr (1, [.int 0, .int 0, .int 0, .long 0, .long 0, .long 0, .null]))] U.heap ∧ KW (D, cA, ad, lo) U ∧ va_D (fun _ => True) [(h0, .inr (1, [.int 0, .int 0, .int 0, .long 0, .long 0, .long 0, .null]))])) (va_Qv (fun _ : Nat × Mem => True) (fun u U => (GI u.2 1 1 ∧ u.1 ≠ h0 ∧ sz ≤ u.1) ∧ va_P D vwCl (wl (D, cA, ad2 h0 u.1, lo) u.2 csS) U.heap ∧ va_D (va_A [(h0, .inr (1, [.int 0, .int 0, .int 0, .long 0, .long 0, .long 0, .null]))] sz) (wl (D, cA, ad2 h0 u.1, lo) u.2 csS)) (va_A [(h0, .inr (1, [.int 0, .int 0, .int 0, .long 0, .long 0, .long 0, .null]))] sz)) 1 36 (va_A [(h0, .inr (1, [.int 0, .int 0, .int 0, .long 0, .long 0, .long 0, .null]))] sz) := by
  refine Met.ofW (cc := cX1_init) (maxL := 1) (ret := none) (by decide) rfl ?_
  intro p e s m args below meth c s₁ B hml hv
  obtain ⟨rfl, hsz, hP, hKW, hD0⟩ := hv
  have hx := B.exec
  have hb := B.bytes
  have hr := B.returns
  have hts0 := atoms_spec (ws := wC yX1_init cX1_init) B.pre
  have hts : ∀ w ∈ TB, w.before _ s = true := fun w hw => hts0 w (List.mem_cons_of_mem _ hw)
  have hown : s.vm.findClass RX1 = some m.cls := findClass_of_methodNamed B.named
  have hin : meth.name = "<init>" := (name_of_methodNamed B.named B.method).1
  have hlocks := B.notSynchronized
  have ht : ∀ x ∈ c.exceptionTable.toList, False := by
    obtain ⟨meth9, c9, h1, h2, -, -, -, -, h7, -⟩ := Cond.code_spec B.named (hts0 _ List.mem_cons_self)
    cases Option.some.inj (h1.symm.trans B.method)
    cases Option.some.inj (h2.symm.trans (Stand.of_body B).code)
    intro x hx
    rw [Array.isEmpty_iff.mp h7] at hx
    cases hx
  subst hsz
  have hD := hD0.self (sz := s.heap.size)
  have hAin : ∀ q : Nat, va_A [(h0, .inr (1, [.int 0, .int 0, .int 0, .long 0, .long 0, .long 0, .null]))] s.heap.size q ↔ q = h0 ∨ s.heap.size ≤ q := fun q => by
    constructor
    · rintro (⟨k, e, hk⟩ | h)
      · match k, hk with
        | 0, hk => cases hk; exact Or.inl rfl
        | k + 1, hk => cases hk
      · exact Or.inr h
    · rintro (rfl | h)
      · exact Or.inl ⟨0, _, rfl⟩
      · exact Or.inr h
  generalize hAe : va_A [(h0, .inr (1, [.int 0, .int 0, .int 0, .long 0, .long 0, .long 0, .null]))] s.heap.size = A at hD hAin ⊢
  have hA : ∀ q : Nat, s.heap.size ≤ q → A q := fun q h => (hAin q).mpr (Or.inr h)
  have hS : va_S A s.heap s.heap [] := va_S.rf
  have hK := hKW.1
  have hP : va_P D vwCl [(h0, .inr (1, [.int 0, .int 0, .int 0, .long 0, .long 0, .long 0, .null]))] s.heap := hP
  have hl := lv_entry ([.ref h0]) (n := 1) (Nat.le_of_ble_eq_true rfl)
  rw [lg_entry_eq]
  generalize (lg_sl ([.ref h0]) ++ List.replicate (1 - (lg_sl ([.ref h0])).length) Slot.unset).toArray = ls at hl ⊢
  have hl : lv_has ls 1 [(0, .ref h0)] := hl
  refine lv_aload_n hx hb dI1_0 rfl (lv_at hl 0 rfl) ?_
  refine W.objInit hx hb hown (hts _ tb_X1_o) (hts _ tb_obj.1) (hts _ tb_obj.2) rfl (by rw [hml]; exact hl.1) rfl dI1_1 (Nat.le_of_ble_eq_true rfl) (Nat.le_of_ble_eq_true rfl) ?_
  refine W.eq (g2 := F0 m 4 ls []) rfl ?_
  refine lv_aload_n hx hb dI1_4 rfl (lv_at hl 0 rfl) ?_
  refine lv_bipush hx hb dI1_5 (v := 36) (by decide +kernel) ?_
  refine va_newa (atype := .int) (ty := .int) (N' := 36) (a0 := (36, .inl (fun _ => 0))) hx hb (hts _ tb_aI) rfl hK hP hD hS hA (fun _ => rfl) (by decide) (by decide) (Nat.le_of_ble_eq_true rfl) (Nat.le_of_ble_eq_true rfl) (Nat.le_of_ble_eq_true rfl) dI1_7 (fun q cN H hK2 hP hD hS => ?_)
  have eN : cA 0 = cN := K_int hK2 0 2 rfl rfl
  subst eN
  have hP : va_P D vwCl [(h0, .inr (1, [.int 0, .int 0, .int 0, .long 0, .long 0, .long 0, .null])), (q, .inl (cA 0, 36, .inl (fun _ => 0)))] H := hP
  have hD : va_D A [(h0, .inr (1, [.int 0, .int 0, .int 0, .long 0, .long 0, .long 0, .null])), (q, .inl (cA 0, 36, .inl (fun _ => 0)))] := hD
  have hq0 : q ≠ h0 := fun z => absurd (hD.1 1 0 _ _ rfl rfl z) (by decide)
  have hqs : s.heap.size ≤ q := ((hAin q).mp (hD.2 1 _ rfl)).elim (fun z => absurd z hq0) id
  refine va_putF (D := D) (ci := 1) (v := .ref q) (ty := .array .int) (C := RX1) (T := TX1) (N := 7) hx hb hts (cls_ok 1 _ rfl).1 tyX1 tyX1_ok nmX1 hown hK hP hD hS 0 rfl rfl 6 (by decide) (hts _ tb_X1_9) (fun _ h9 => h9) rfl hin rfl (by decide +kernel) rfl rfl (Nat.le_of_ble_eq_true rfl) dI1_9 (fun H locs hP hD hS => ?_)
  -- the rest by the machine
  have gok : GhOK (D, cA, ad2 h0 q, lo) csS s.heap.size := by
    refine ⟨?_, ?_, hlo.2⟩
    · intro a ha b hb h
      have ha' : a = 2 ∨ a = 3 := by simpa [csS] using ha
      have hb' : b = 2 ∨ b = 3 := by simpa [csS] using hb
      rcases ha' with rfl | rfl <;> rcases hb' with rfl | rfl
      · rfl
      · exact absurd (show h0 = q from h).symm hq0
      · exact absurd (show q = h0 from h) hq0
      · rfl
    · intro k hk
      have hk' : k = 2 ∨ k = 3 := by simpa [csS] using hk
      rcases hk' with rfl | rfl
      · exact hlo.1
      · exact Nat.le_trans hlo.2 hqs
  have agA : ∀ z, AG (D, cA, ad2 h0 q, lo) csS s.heap.size z → A z := by
    rintro z (⟨k, hk, rfl⟩ | h)
    · have hk' : k = 2 ∨ k = 3 := by simpa [csS] using hk
      rcases hk' with rfl | rfl
      · exact (hAin _).mpr (Or.inl rfl)
      · exact hA _ hqs
    · exact hA z h
  have aAg : ∀ z, A z → AG (D, cA, ad2 h0 q, lo) csS s.heap.size z := by
    intro z hz
    rcases (hAin z).mp hz with rfl | h
    · exact Or.inl ⟨2, by simp [csS], rfl⟩
    · exact Or.inr h
  obtain ⟨M', hm1, hm2, -⟩ := begin_i M0 (m := 1) (n := 1) (by decide) (by decide) (by decide)
  have X : CxS p l (headSpec (wC yX1_init cX1_init) ({ frames := 5, cells := 1, slots := 36, locals := 300 })).room s m #[Value.ref h0] meth c (D, cA, ad2 h0 q, lo) C_X1_init 1 s.heap.size 0 4 (1, 36, 1, 36) cX1_init RX1 :=
    ⟨⟨hx, hb, hml, hown, hts⟩, hKW, gok, rfl, csS_nd, hst, hlocks, hr, rfl, by decide, by decide, by decide, by decide, ⟨by decide, by decide⟩, by
      cases htl : c.exceptionTable.toList with
      | nil => rfl
      | cons x r => exact (ht x (by rw [htl]; exact List.mem_cons_self)).elim⟩
  obtain ⟨nn, kk, hrun⟩ : Rend C_X1_init (12, [some (.ref 2)], [], M0, 0) (.inl none) M' := (r_X1_init M0) (.inl none, M') (by
    rw [show d_X1_begin (1 : Int32) (1 : Int32) M0 = _ from hm1]; rfl)
  have hA9 := runA_ok (e := e) (below := below) X cfg_X1_init (fun L xs h => by cases h) nn _ _ hrun ⟨rfl, rfl⟩
  have hW := hA9 H locs ls hP (hS.to9 aAg) rfl hl
  refine W.mono9 hW ?_
  rintro t ⟨o, t1, t2, ⟨⟨⟨v, v1, v2, v3⟩, v4⟩, L, f1, f2⟩ | ⟨z, -, E, ce, L, ⟨hE, -⟩, -⟩⟩
  · cases v1
    exact ⟨o, t1, t2, ⟨⟨(q, M'), v2, trivial, ⟨hm2, hq0, hqs⟩, v3, (wl_D csS_nd gok).1, fun k q hk => agA _ ((wl_D (M := M') csS_nd gok).2 k q hk)⟩, v4.to9 agA⟩, L, f1, fun z hz => agA _ (f2 z hz)⟩
  · cases hE
