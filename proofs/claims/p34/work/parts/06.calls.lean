/-! CONTRACTS, CALLS, ENDS -/
/-! ===== a static method of a nest mate that may throw (out of the kit's laws) ===== -/
/-! ===== BEGIN a private method of a nest mate that may throw (follows va_callVN, va_callSN, va_runVN, va_runSN) ===== -/
section
variable {p : Program} {l : Launch} {e : Env} {R : Room} {s : State} {m : MethodId} {args : Array Value} {below : List Frame} {meth : Method} {c : Code} {H : Heap} {locs : List Loc} {cells slots : Nat}
variable {T : State}
theorem vx_callVN (X : Stand p l e R s m args below meth c T locs cells slots) (hexec : p.tables.exec = Jvm.exec) {own C : String} {index : Nat} {host : String} {y : MethodName} {bytes : ByteArray} {maxL : Nat} {ret : Option FieldType}
    (hown : s.vm.findClass own = some m.cls) (hlink : (Cond.methodLinkNest own index y host).before args s = true) (hinst : (Cond.instanceMethod y).before args s = true) (hsel : (Cond.selects C y y).before args s = true)
    (hcode : (Cond.code y bytes maxL ret).before args s = true) (hy : y.cls ≠ "java/lang/invoke/MethodHandle" ∧ y.cls ≠ "java/lang/invoke/VarHandle")
    {W : Nat} {Pre : Pt → Array Value → Prop} {Post : Pt → Array Value → Option Value → Pt → Prop} {PostX : Pt → Array Value → Addr → Pt → Prop} (hK : vx_Back l R p e below s args y 3 W Pre Post PostX)
    {b : Addr} {cellB : Cell} (hcell : T.heap[b]? = some cellB) (hobj : cellB.vm.isStatics = false) (hcls : s.vm.findClass C = some cellB.cls)
    {g : JFrame} (hg : g.method = m) (hsize : g.locals.size = c.maxLocals) {argsL rest : List Value} (hlen : ∀ sig, parseMethodDescriptor y.desc = some sig → argsL.length = sig.parameters.length)
    (hstack : g.stack = argsL.reverse ++ .ref b :: rest) (hW : 2 * g.monitorRoom + (rest.map fun v => v.category).sum ≤ W) (hdg : decode c.code g.pc = .ok (.invokevirtual index, 3))
    (hpre : ∀ vm₁, s.WarmedH vm₁ → Pre ⟨T.setVm vm₁, locs, cells, slots⟩ (Value.ref b :: argsL).toArray) :
    (∃ (v : Option Value) (vm₁ : Vm) (B : Pt), s.WarmedH vm₁ ∧ Stand p l e R s m args below meth c B.U B.locs B.cells B.slots ∧ Post ⟨T.setVm vm₁, locs, cells, slots⟩ (Value.ref b :: argsL).toArray v B ∧
      ∀ target, Steps p.tables e below (B.U.setTop { g with pc := g.pc + 3, stack := v.toList ++ rest }) target → Steps p.tables e below (T.setTop g) target) ∨
    (∃ (q : Addr) (vm₁ : Vm) (B : Pt), s.WarmedH vm₁ ∧ Stand p l e R s m args below meth c B.U B.locs B.cells B.slots ∧ PostX ⟨T.setVm vm₁, locs, cells, slots⟩ (Value.ref b :: argsL).toArray q B ∧
      Steps p.tables e below (T.setTop g) ((B.U.setTop { g with stack := rest }).pushFrame (.throwing q))) := by
  obtain ⟨mk, methM, hnamed, hmethM, hstM, habM⟩ := Cond.instanceMethod_spec hinst
  obtain ⟨methM', cM, hmethM', -, -, -, -, -, -, hsigM⟩ := Cond.code_spec hnamed hcode
  cases hmethM.symm.trans hmethM'
  obtain ⟨c2, r2, m2, q1, q2, q3, q4, kP, hkP, hkPi⟩ := Cond.selects_spec hsel
  cases hcls.symm.trans q1
  cases (State.methodFound?_of_named hnamed hy).symm.trans q2
  cases hnamed.symm.trans q3
  have hselP : selectMethod e.platform s.vm cellB.cls mk = .method mk := by rw [Launch.admits_selectMethod X.admits]; exact q4
  obtain ⟨vm₁, X₁, hstep₁⟩ := X.invokevirtualNest hexec hown hlink hnamed hmethM hstM hkP hkPi hy (a := b) (cell := cellB) hcell
    (fun z h => by rw [h] at hobj; cases hobj) hselP hmethM habM hkP hkPi (g := g) hg (argsL := argsL) (rest := rest) (hlen _ hsigM) hstack hdg
  rcases hK m meth c ⟨T.setVm vm₁, locs, cells, slots⟩ { g with stack := rest } (.invokevirtual index) mk (Value.ref b :: argsL).toArray X₁ hg hsize hdg hW (X₁.named hnamed) (hpre vm₁ X₁.warmed) with ⟨v, B, X', hpost, hsteps⟩ | ⟨q, B, X', hpost, hsteps⟩
  · exact Or.inl ⟨v, vm₁, B, X₁.warmed, X', hpost, fun target h => hstep₁ _ fun acts => by rw [doInvoke_state]; exact hsteps.trans h⟩
  · exact Or.inr ⟨q, vm₁, B, X₁.warmed, X', hpost, hstep₁ _ fun acts => by rw [doInvoke_state]; exact hsteps⟩
theorem vx_callSN (X : Stand p l e R s m args below meth c T locs cells slots) (hexec : p.tables.exec = Jvm.exec) {own : String} {index : Nat} {host : String} {y : MethodName} {bytes : ByteArray} {maxL : Nat} {ret : Option FieldType}
    (hown : s.vm.findClass own = some m.cls) (hlink : (Cond.methodLinkNest own index y host).before args s = true) (hstat : (Cond.static y).before args s = true) (hinit : (Cond.initialized y.cls).before args s = true)
    (hcode : (Cond.code y bytes maxL ret).before args s = true) (hy : y.cls ≠ "java/lang/invoke/MethodHandle" ∧ y.cls ≠ "java/lang/invoke/VarHandle")
    {W : Nat} {Pre : Pt → Array Value → Prop} {Post : Pt → Array Value → Option Value → Pt → Prop} {PostX : Pt → Array Value → Addr → Pt → Prop} (hK : vx_Back l R p e below s args y 3 W Pre Post PostX)
    {g : JFrame} (hg : g.method = m) (hsize : g.locals.size = c.maxLocals) {argsL rest : List Value} (hlen : ∀ sig, parseMethodDescriptor y.desc = some sig → argsL.length = sig.parameters.length)
    (hstack : g.stack = argsL.reverse ++ rest) (hW : 2 * g.monitorRoom + (rest.map fun v => v.category).sum ≤ W) (hdg : decode c.code g.pc = .ok (.invokestatic index, 3))
    (hpre : ∀ vm₁, s.WarmedH vm₁ → Pre ⟨T.setVm vm₁, locs, cells, slots⟩ argsL.toArray) :
    (∃ (v : Option Value) (vm₁ : Vm) (B : Pt), s.WarmedH vm₁ ∧ Stand p l e R s m args below meth c B.U B.locs B.cells B.slots ∧ Post ⟨T.setVm vm₁, locs, cells, slots⟩ argsL.toArray v B ∧
      ∀ target, Steps p.tables e below (B.U.setTop { g with pc := g.pc + 3, stack := v.toList ++ rest }) target → Steps p.tables e below (T.setTop g) target) ∨
    (∃ (q : Addr) (vm₁ : Vm) (B : Pt), s.WarmedH vm₁ ∧ Stand p l e R s m args below meth c B.U B.locs B.cells B.slots ∧ PostX ⟨T.setVm vm₁, locs, cells, slots⟩ argsL.toArray q B ∧
      Steps p.tables e below (T.setTop g) ((B.U.setTop { g with stack := rest }).pushFrame (.throwing q))) := by
  obtain ⟨mk, hnamed⟩ := Cond.code_named hcode
  obtain ⟨methM, cM, hmethM, -, -, -, -, -, -, hsigM⟩ := Cond.code_spec hnamed hcode
  have hstatic : methM.isStatic = true := Cond.static_spec hnamed hmethM hstat
  obtain ⟨kP, hkP, -⟩ := className_of_methodNamed hnamed
  have hinitP : kP.init = .initialized := Cond.initialized_spec (findClass_of_methodNamed hnamed) hkP hinit
  obtain ⟨vm₁, X₁, hstep₁⟩ := X.invokestaticNest hexec hown hlink hnamed hmethM hstatic hkP hinitP hy (g := g) hg (argsL := argsL) (rest := rest) (hlen _ hsigM) hstack hdg
  rcases hK m meth c ⟨T.setVm vm₁, locs, cells, slots⟩ { g with stack := rest } (.invokestatic index) mk argsL.toArray X₁ hg hsize hdg hW (X₁.named hnamed) (hpre vm₁ X₁.warmed) with ⟨v, B, X', hpost, hsteps⟩ | ⟨q, B, X', hpost, hsteps⟩
  · exact Or.inl ⟨v, vm₁, B, X₁.warmed, X', hpost, fun target h => hstep₁ _ fun acts => by rw [doInvoke_state]; exact hsteps.trans h⟩
  · exact Or.inr ⟨q, vm₁, B, X₁.warmed, X', hpost, hstep₁ _ fun acts => by rw [doInvoke_state]; exact hsteps⟩
theorem vx_runVN {y : MethodName} {bytes cc : ByteArray} {maxL nL mc ms n index : Nat} {ret : Option FieldType} {ws : List Cond} {rm : Room} {Pc : Array Value → State → Prop} {Qc : Array Value → State → Outcome → State → Prop} {XC : String → State → State → Prop} {free : Addr → Prop} {Ts : List Cond} {own C host : String} {b : Addr} {As rest : List Value} {g : JFrame}
    (S : CallFix p m c cc nL s args Ts own) (hM : vx_Met l y ws rm Pc Qc XC mc ms free) (cw : va_CN R s args own index y host bytes maxL ret ws rm mc ms n ∧ (Cond.instanceMethod y).before args s = true ∧ (Cond.selects C y y).before args s = true) (hp : PreV s H C b Pc As)
    (hg : g.method = m) (hn : As.length = n) (hsize : g.locals.size = nL) (hstack : g.stack = As.reverse ++ .ref b :: rest) (hW : 2 * g.monitorRoom + (rest.map fun v => v.category).sum ≤ 8) (hdg : decode cc g.pc = .ok (.invokevirtual index, 3)) (hf : cells + mc ≤ R.cells ∧ slots + ms ≤ R.slots) :
    vx_Run p l e R s m args below meth c H locs cells slots mc ms g rest (Qc (Value.ref b :: As).toArray) XC free := by
  obtain ⟨⟨⟨hrc, hrs, hfr, hlo, hws, hcw⟩, hcode, hini, hy, hlen, hl⟩, hx1, hx2⟩ := cw
  have hK : vx_Back l R p e below s args y 3 8 (PreOf R mc ms Pc) (PostOf Qc mc ms free) (vx_Post XC mc ms free) := vx_back (bytes := bytes) (maxL := maxL) (ret := ret) hM hp.1 hrc hrs hfr hlo hws hcw (fun a' U hW => word_at hW (Or.inl (by first | rfl | simp [Cond.onTables, Cond.keeps, Cond.steady])) hini)
  obtain ⟨hx, hb, hml, ho, -⟩ := S
  obtain ⟨-, ⟨cellB, hcB, hoB, hclB⟩, hPc⟩ := hp
  intro T hT X
  rcases vx_callVN X hx (C := C) (bytes := bytes) (maxL := maxL) (ret := ret) ho hl hx1 hx2 hcode hy hK (by rw [hT]; exact hcB) hoB hclB hg (hsize.trans hml.symm) (argsL := As) (rest := rest) (fun sig h => hn.trans (hlen sig h)) hstack hW (by rw [hb]; exact hdg)
    (fun vm₁ hW₁ => ⟨hf.1, hf.2, hPc (T.setVm vm₁) hT hW₁⟩) with ⟨v, vm₁, ⟨U', l2, c2, s2⟩, hW₁, X', ⟨g', mk, t, L, e1, e2, hq, h1, hL, h2, h3⟩, st⟩ | ⟨q, vm₁, ⟨U', l2, c2, s2⟩, hW₁, X', ⟨g', mk, t, L, E, ce, e1, e2, hq, hce, hcv, hcl, h1, hL, h2, h3⟩, st⟩
  · dsimp only [Pt.U, Pt.locs, Pt.cells, Pt.slots] at X' e1 e2 h1 h2 h3 st
    subst h1; subst h2; subst h3
    exact Or.inl ⟨v, (T.setVm vm₁).calling g' mk (Value.ref b :: As).toArray, t, U', L, hT, X', hL, e1, e2, hq, st⟩
  · dsimp only [Pt.U, Pt.locs, Pt.cells, Pt.slots] at X' e1 e2 h1 h2 h3 st hcl
    subst h1; subst h2; subst h3
    exact Or.inr ⟨q, (T.setVm vm₁).calling g' mk (Value.ref b :: As).toArray, t, U', L, E, ce, hT, X', hL, e1, e2, hq, hce, hcv, vx_cls hW₁ hcl, st⟩
theorem vx_runSN {y : MethodName} {bytes cc : ByteArray} {maxL nL mc ms n index : Nat} {ret : Option FieldType} {ws : List Cond} {rm : Room} {Pc : Array Value → State → Prop} {Qc : Array Value → State → Outcome → State → Prop} {XC : String → State → State → Prop} {free : Addr → Prop} {Ts : List Cond} {own host : String} {As rest : List Value} {g : JFrame}
    (S : CallFix p m c cc nL s args Ts own) (hM : vx_Met l y ws rm Pc Qc XC mc ms free) (cw : va_CN R s args own index y host bytes maxL ret ws rm mc ms n ∧ (Cond.static y).before args s = true ∧ True) (hp : PreS s H Pc As)
    (hg : g.method = m) (hn : As.length = n) (hsize : g.locals.size = nL) (hstack : g.stack = As.reverse ++ rest) (hW : 2 * g.monitorRoom + (rest.map fun v => v.category).sum ≤ 8) (hdg : decode cc g.pc = .ok (.invokestatic index, 3)) (hf : cells + mc ≤ R.cells ∧ slots + ms ≤ R.slots) :
    vx_Run p l e R s m args below meth c H locs cells slots mc ms g rest (Qc As.toArray) XC free := by
  obtain ⟨⟨⟨hrc, hrs, hfr, hlo, hws, hcw⟩, hcode, hini, hy, hlen, hl⟩, hx1, hx2⟩ := cw
  have hK : vx_Back l R p e below s args y 3 8 (PreOf R mc ms Pc) (PostOf Qc mc ms free) (vx_Post XC mc ms free) := vx_back (bytes := bytes) (maxL := maxL) (ret := ret) hM hp.1 hrc hrs hfr hlo hws hcw (fun a' U hW => word_at hW (Or.inl (by first | rfl | simp [Cond.onTables, Cond.keeps, Cond.steady])) hini)
  obtain ⟨hx, hb, hml, ho, -⟩ := S
  have hPc := hp.2
  intro T hT X
  rcases vx_callSN X hx (bytes := bytes) (maxL := maxL) (ret := ret) ho hl hx1 hini hcode hy hK hg (hsize.trans hml.symm) (argsL := As) (rest := rest) (fun sig h => hn.trans (hlen sig h)) hstack hW (by rw [hb]; exact hdg)
    (fun vm₁ hW₁ => ⟨hf.1, hf.2, hPc (T.setVm vm₁) hT hW₁⟩) with ⟨v, vm₁, ⟨U', l2, c2, s2⟩, hW₁, X', ⟨g', mk, t, L, e1, e2, hq, h1, hL, h2, h3⟩, st⟩ | ⟨q, vm₁, ⟨U', l2, c2, s2⟩, hW₁, X', ⟨g', mk, t, L, E, ce, e1, e2, hq, hce, hcv, hcl, h1, hL, h2, h3⟩, st⟩
  · dsimp only [Pt.U, Pt.locs, Pt.cells, Pt.slots] at X' e1 e2 h1 h2 h3 st
    subst h1; subst h2; subst h3
    exact Or.inl ⟨v, (T.setVm vm₁).calling g' mk As.toArray, t, U', L, hT, X', hL, e1, e2, hq, st⟩
  · dsimp only [Pt.U, Pt.locs, Pt.cells, Pt.slots] at X' e1 e2 h1 h2 h3 st hcl
    subst h1; subst h2; subst h3
    exact Or.inr ⟨q, (T.setVm vm₁).calling g' mk As.toArray, t, U', L, E, ce, hT, X', hL, e1, e2, hq, hce, hcv, vx_cls hW₁ hcl, st⟩
end
/-! ===== END ===== -/
/-- what a method's start is: the values, the world of the memory M, the tables -/
def PcW (G : Gh) (cs : List Nat) (av : List Value) (M : Mem) (sz : Nat) : Array Value → State → Prop := fun a U =>
  a = (av.map (cv G)).toArray ∧ U.heap.size = sz ∧ va_P G.D vwCl (wl G M cs) U.heap ∧ KW G U ∧ GhOK G cs sz
def QcW (G : Gh) (cs : List Nat) (o : Res) (M' : Mem) (sz : Nat) : Array Value → State → Outcome → State → Prop := fun _ st oc t =>
  (∃ v : Option Value, o = .inl v ∧ oc = .returned (v.map (cv G)) ∧ va_P G.D vwCl (wl G M' cs) t.heap) ∧ va_F (AG G cs sz) st t
def XcW (G : Gh) (cs : List Nat) (o : Res) (M' : Mem) (sz : Nat) : String → State → State → Prop := fun E st t =>
  o = .inr E ∧ va_P G.D vwCl (wl G M' cs) t.heap ∧ va_F (AG G cs sz) st t
abbrev HH : Type := List (Nat × Nat × Nat × Nat)
def wd1 (y : MethodName) (cc : ByteArray) (maxL : Nat) (ret : Option FieldType) : Option HH → Cond
  | none => .code y cc maxL ret
  | some hh => .codeWith y cc maxL ret hh
/-- A METHOD'S CONTRACT: wherever f says what comes of values and memory, the method does that; d: how deep its calls go -/
def OkM (cs : List Nat) (y : MethodName) (w1 : Cond) (d mc : Nat) (f : Fn) : Prop :=
  ∀ (l : Launch), l.stackTraces = false → ∀ (G : Gh) (sz : Nat) (av : List Value) (M : Mem) (o : Res) (M' : Mem), f av M = some (o, M') →
    vx_Met l y (w1 :: TB) { frames := d, cells := mc, slots := 6 * mc, locals := 48 * d } (PcW G cs av M sz) (QcW G cs o M' sz) (XcW G cs o M' sz) mc (6 * mc) (AG G cs sz)
theorem PcW_blind {G : Gh} {cs : List Nat} {av : List Value} {M : Mem} {sz : Nat} : FrameBlind (PcW G cs av M sz) := by
  intro a U g mk h
  obtain ⟨h1, h2, h3, h4, h5⟩ := h
  exact ⟨h1, h2, h3, h4.blind, h5⟩
/-- Math.min, which the machine has as its own -/
def jmin (x y : Int32) : Int32 := if y < x then y else x
def fn_min : Fn := fun av M => match av with
  | [.int x, .int y] => some (.inl (some (.int (jmin x y))), M)
  | _ => none
def MinOK (own : String) (d : Nat) (e : Nat × CallE) : Prop :=
  e.2.1 = 0 ∧ e.2.2.2.1 = 2 ∧ e.2.2.2.2.1 = 0 ∧ e.2.2.2.2.2 = fn_min ∧ 1 ≤ d ∧ Cond.methodLink own e.1 Lib.Math.min.name ∈ TB ∧ Cond.static Lib.Math.min.name ∈ TB ∧ Cond.initialized "java/lang/Math" ∈ TB ∧ Cond.code Lib.Math.min.name Lib.Math.min.code 2 (some .int) ∈ TB
/-- a call's row in a class's table is good: the words, the callee's contract -/
def CallOK (own : String) (cs : List Nat) (d : Nat) (e : Nat × CallE) : Prop := MinOK own d e ∨
  ∃ (y : MethodName) (cc : ByteArray) (maxL : Nat) (ret : Option FieldType) (hh : Option HH) (dY : Nat),
    OkM cs y (wd1 y cc maxL ret hh) dY e.2.2.2.2.1 e.2.2.2.2.2 ∧ dY + 1 ≤ d ∧ maxL ≤ 29 ∧ wd1 y cc maxL ret hh ∈ TB ∧ Cond.initialized y.cls ∈ TB ∧
    (y.cls ≠ "java/lang/invoke/MethodHandle" ∧ y.cls ≠ "java/lang/invoke/VarHandle") ∧
    ((e.2.1 = 0 ∧ (parseMethodDescriptor y.desc).map (fun d => d.parameters.length) = some e.2.2.2.1 ∧ Cond.methodLink own e.1 y ∈ TB ∧ Cond.static y ∈ TB) ∨
     (e.2.1 = 1 ∧ hh = none ∧ (parseMethodDescriptor y.desc).map (fun d => d.parameters.length) = some e.2.2.2.1 ∧ (∃ host, (own, e.1, y, host) ∈ nestL) ∧ Cond.static y ∈ TB) ∨
     (e.2.1 = 2 ∧ hh = none ∧ (parseMethodDescriptor y.desc).map (fun d => d.parameters.length + 1) = some e.2.2.2.1 ∧ Cond.methodLink own e.1 y ∈ TB ∧ Cond.instanceMethod y ∈ TB ∧ Cond.selects y.cls y y ∈ TB ∧ ∃ q : vw_C, vwCl[e.2.2.1]? = some q ∧ q.1 = y.cls))
theorem TB_good {w : Cond} (h : w ∈ TB) : w ∈ lw_tbl ∧ goodWord w = true := List.mem_filter.mp h
theorem TB_in {w1 : Cond} {U : State} {s : State} {args : Array Value} (hts : ∀ w ∈ TB, w.before args s = true) (h1 : w1 ∈ TB) : ∀ w ∈ w1 :: TB, ∀ (a' : Array Value) (U : State), s.WarmedH U.vm → w.before a' U = true := by
  intro w hw a' U hW
  have hw2 : w ∈ TB := (List.mem_cons.mp hw).elim (fun e => by rw [e]; exact h1) id
  exact word_at hW (good_of_word (TB_good hw2).2) (hts w hw2)
section SndK
variable {p : Program} {l : Launch} {e : Env} {R : Room} {s : State} {m : MethodId} {args : Array Value} {below : List Frame} {meth : Method} {c : Code} {Q : State → Prop} {G : Gh} {C : Cfg} {nL sz mc d : Nat} {B : Bd} {cc : ByteArray} {own : String} {o0 : Res} {M0 : Mem}
variable {pc n k : Nat} {lo : List (Option Value)} {st : List Value} {M : Mem} {r : St ⊕ Ou}
/-- what is fixed while a method runs -/
def CxS (p : Program) (l : Launch) (R : Room) (s : State) (m : MethodId) (args : Array Value) (meth : Method) (c : Code) (G : Gh) (C : Cfg) (nL sz mc d : Nat) (B : Bd) (cc : ByteArray) (own : String) : Prop :=
  (p.tables.exec = Jvm.exec ∧ c.code = cc ∧ c.maxLocals = nL ∧ s.vm.findClass own = some m.cls ∧ ∀ w ∈ TB, w.before args s = true) ∧
  KW G s ∧ GhOK G C.cs sz ∧ s.heap.size = sz ∧ C.cs.Nodup ∧ l.stackTraces = false ∧ meth.locks = false ∧ meth.sig.returnType = C.ret ∧ C.cap = mc ∧ B.1 + mc ≤ R.cells ∧ B.2.1 + 6 * mc ≤ R.slots ∧ d ≤ R.frames ∧ 48 * d ≤ R.locals ∧ (B.1 + mc ≤ B.2.2.1 ∧ B.2.1 + 6 * mc ≤ B.2.2.2) ∧
  c.exceptionTable.toList = tableOf (C.hs.map fun h => (h.1, h.2.1, h.2.2.1, h.2.2.2.1))
/-- the end of a method -/
abbrev QM (below : List Frame) (G : Gh) (C : Cfg) (o0 : Res) (M0 : Mem) (sz : Nat) (B : Bd) (args : Array Value) (s : State) : State → Prop := vx_MQ below (QcW G C.cs o0 M0 sz) (XcW G C.cs o0 M0 sz) args s B.2.2.1 B.2.2.2 (AG G C.cs sz)
theorem va_S_F {A : Nat → Prop} {H : Heap} {locs : List Loc} {t : State} (hS : va_S A s.heap H locs) (ht : t.heap = H) : va_F A s t := hS.F ht
/-- an int answered as what its type makes of it -/
theorem W_retN {H : Heap} {locs : List Loc} {cells slots : Nat} {Qc : Array Value → State → Outcome → State → Prop} {free : Addr → Prop} {v w : Int32} {ty : FieldType} (hexec : p.tables.exec = Jvm.exec) (hb : c.code = cc) (hr : meth.sig.returnType = some ty) (hn : narrow ty (.int v) = .int w)
    (hq : ∀ t : State, t.heap = H → s.WarmedH t.vm → Qc args s (.returned (some (.int w))) t) (hf : ∀ q ∈ locs, free q.base) {pc : Nat} {ls : Array Slot} (hdg : decode cc pc = .ok (.ireturn, 1)) (hlocks : meth.locks = false) :
    W p l e R s m args below meth c H locs cells slots (MQ below Qc args s cells slots free) (F0 m pc ls [.int v]) := by
  intro T hT X
  obtain ⟨fs, hret, hrun, hended, hW, hframe⟩ := X.leave (v := some (.int w)) (hlocks := hlocks) (fun h => by rw [hr] at h; cases h)
  have hmeth' : T.vm.method? m = some meth := X.method'
  refine ⟨T.setFrames fs, ?_, .returned (some (.int w)), hrun, hended, hq _ hT hW, locs, ⟨⟨_, rfl⟩, hW, hframe⟩, hf⟩
  jvm_step X.here [X.here.top, hexec, hb, hdg, hmeth', hr, hn]
  (try refine ⟨rfl, ?_⟩); (try refine ⟨rfl, ?_⟩)
  first | (intro acts; rw [hret _ acts rfl rfl rfl]) | rw [hret _ _ rfl rfl rfl]
  exact Steps.refl _
theorem sn_ireturn (X : CxS p l R s m args meth c G C nL sz mc d B cc own) (hd : decode cc pc = .ok (.ireturn, n)) (hn : n = 1) (hk : k ≤ mc)
    (h : xi C pc lo st M k n .ireturn = some r) (hF : FinR p l e R s m args below meth c (QM below G C o0 M0 sz B args s) (AG G C.cs sz) G C nL B o0 M0 r) : AW p l e R s m args below meth c (QM below G C o0 M0 sz B args s) (AG G C.cs sz) G C nL B (pc, lo, st, M, k) := by
  obtain ⟨⟨hx, hb, hml, hown, hts⟩, hK, hG, hsz, hnd, hst, hlocks, hret, hcap, -, -, -, -, ⟨hM1, hM2⟩, htab⟩ := X
  subst hn
  simp only [xi] at h
  split at h
  · rename_i x ty hre
    have key : ∀ (w : Int32), narrow ty (.int x) = .int w → r = .inr (.inl (some (.int w)), M, k) → AW p l e R s m args below meth c (QM below G C o0 M0 sz B args s) (AG G C.cs sz) G C nL B (pc, lo, [.int x], M, k) := by
      intro w hw hr
      subst hr
      obtain ⟨e1, e2⟩ := hF
      dsimp only at e1 e2
      subst e1; subst e2
      intro H locs ls hP hS hL hl0
      refine W.widen (Nat.le_trans (Nat.add_le_add_left hk _) hM1) (Nat.le_trans (Nat.add_le_add_left (Nat.mul_le_mul_left 6 hk) _) hM2) (vx_ret ?_)
      exact W_retN hx hb (by rw [hret]; exact hre) hw (fun t ht _ => ⟨⟨some (.int w), rfl, rfl, by rw [ht]; exact hP⟩, hS.F ht⟩) hS.2.2 hd hlocks
    split at h
    · exact key x rfl (Option.some.inj h).symm
    · exact key (x &&& 1) rfl (Option.some.inj h).symm
    · cases h
  · cases h
theorem sn_lreturn (X : CxS p l R s m args meth c G C nL sz mc d B cc own) (hd : decode cc pc = .ok (.lreturn, n)) (hn : n = 1) (hk : k ≤ mc)
    (h : xi C pc lo st M k n .lreturn = some r) (hF : FinR p l e R s m args below meth c (QM below G C o0 M0 sz B args s) (AG G C.cs sz) G C nL B o0 M0 r) : AW p l e R s m args below meth c (QM below G C o0 M0 sz B args s) (AG G C.cs sz) G C nL B (pc, lo, st, M, k) := by
  obtain ⟨⟨hx, hb, hml, hown, hts⟩, hK, hG, hsz, hnd, hst, hlocks, hret, hcap, -, -, -, -, ⟨hM1, hM2⟩, htab⟩ := X
  subst hn
  simp only [xi] at h
  split at h
  · rename_i x hre
    cases h
    obtain ⟨e1, e2⟩ := hF
    dsimp only at e1 e2
    subst e1; subst e2
    intro H locs ls hP hS hL hl0
    refine W.widen (Nat.le_trans (Nat.add_le_add_left hk _) hM1) (Nat.le_trans (Nat.add_le_add_left (Nat.mul_le_mul_left 6 hk) _) hM2) (vx_ret ?_)
    exact W.lret hx hb (by rw [hret]; exact hre) (fun t ht _ => ⟨⟨some (.long x), rfl, rfl, by rw [ht]; exact hP⟩, hS.F ht⟩) hS.2.2 hd hlocks
  · cases h
theorem sn_return_ (X : CxS p l R s m args meth c G C nL sz mc d B cc own) (hd : decode cc pc = .ok (.return_, n)) (hn : n = 1) (hk : k ≤ mc)
    (h : xi C pc lo st M k n .return_ = some r) (hF : FinR p l e R s m args below meth c (QM below G C o0 M0 sz B args s) (AG G C.cs sz) G C nL B o0 M0 r) : AW p l e R s m args below meth c (QM below G C o0 M0 sz B args s) (AG G C.cs sz) G C nL B (pc, lo, st, M, k) := by
  obtain ⟨⟨hx, hb, hml, hown, hts⟩, hK, hG, hsz, hnd, hst, hlocks, hret, hcap, -, -, -, -, ⟨hM1, hM2⟩, htab⟩ := X
  subst hn
  simp only [xi] at h
  split at h
  · rename_i hre
    cases h
    obtain ⟨e1, e2⟩ := hF
    dsimp only at e1 e2
    subst e1; subst e2
    intro H locs ls hP hS hL hl0
    refine W.widen (Nat.le_trans (Nat.add_le_add_left hk _) hM1) (Nat.le_trans (Nat.add_le_add_left (Nat.mul_le_mul_left 6 hk) _) hM2) (vx_ret ?_)
    exact W.vret hx hb (by rw [hret]; exact hre) (fun t ht _ => ⟨⟨none, rfl, rfl, by rw [ht]; exact hP⟩, hS.F ht⟩) hS.2.2 hd hlocks
  · cases h
/-- an exception leaves the method -/
theorem sn_out (X : CxS p l R s m args meth c G C nL sz mc d B cc own) (hhs : C.hs = []) {pc : Nat} {E : String} {ce : Cell} {q : Addr} {H : Heap} {locs : List Loc} {ls : Array Slot} {rest : List Value} {k2 n2 : Nat} (hk : k2 ≤ B.2.2.1) (hk2 : n2 ≤ B.2.2.2)
    (hP : va_P G.D vwCl (wl G M0 C.cs) H) (hS : va_S (AG G C.cs sz) s.heap H locs) (ho : o0 = .inr E) (hcell : H[q]? = some ce) (hv : ce.vm = .none) (hcl : s.vm.findClass E = some ce.cls) :
    vx_W p l e R s m args below meth c H locs k2 n2 (QM below G C o0 M0 sz B args s) (F0 m pc ls rest) q := by
  obtain ⟨⟨hx, hb, hml, hown, hts⟩, hK, hG, hsz, hnd, hst, hlocks, hret, hcap, -, -, -, -, ⟨hM1, hM2⟩, htab⟩ := X
  refine vx_out (fun x hx => ?_) hlocks hcell hv hcl (fun t ht _ => ⟨ho, by rw [ht]; exact hP, hS.F ht⟩) hS.2.2 hk hk2
  rw [htab, hhs] at hx
  cases hx
/-- what the handlers' rows say of the class's words, and that the code laid there is the code -/
def HsOK (own : String) (C : Cfg) : Prop := ∀ h ∈ C.hs, h.2.2.2.1 ≠ 0 ∧ Cond.classLink own h.2.2.2.1 h.2.2.2.2 ∈ TB ∧ h.2.2.2.2 ∈ excL
theorem hnd_sp {pc : Nat} {E : String} {v : Value} : ∀ {hs : List (Nat × Nat × Nat × Nat × String)}, hnd C nL pc E hs = some (some v) → ∃ pre x suf, hs = pre ++ x :: suf ∧ (∀ z ∈ pre, ¬ (z.1 ≤ pc ∧ pc < z.2.1 ∧ z.2.2.2.2 = E)) ∧ x.1 ≤ pc ∧ pc < x.2.1 ∧ x.2.2.2.2 = E ∧ C.ret = some .long ∧
    ∃ i j w, i < nL ∧ lk C.code x.2.2.1 = some (.astore i, 2) ∧ lk C.code (x.2.2.1 + 2) = some (.ldc2_w j, 3) ∧ lk C.code (x.2.2.1 + 5) = some (.lreturn, 1) ∧ lk C.longs j = some w ∧ v = .long w
  | [], h => by cases h
  | x :: r, h => by
    unfold hnd at h
    cases hc : (Nat.ble x.1 pc && Nat.blt pc x.2.1 && decide (x.2.2.2.2 = E)) with
    | false =>
      rw [hc] at h
      obtain ⟨pre, z, suf, e1, e2, e3⟩ := hnd_sp (hs := r) h
      refine ⟨x :: pre, z, suf, by rw [e1]; rfl, fun w hw => ?_, e3⟩
      rcases List.mem_cons.mp hw with e | hw
      · subst e
        rintro ⟨a1, a2, a3⟩
        rw [Nat.ble_eq_true_of_le a1, show Nat.blt pc w.2.1 = true from Nat.ble_eq_true_of_le a2, decide_eq_true a3] at hc
        cases hc
      · exact e2 w hw
    | true =>
      rw [hc] at h
      simp only [Bool.and_eq_true, decide_eq_true_eq] at hc
      obtain ⟨⟨c1, c2⟩, c3⟩ := hc
      refine ⟨[], x, r, rfl, fun _ hz => (List.not_mem_nil hz).elim, Nat.le_of_ble_eq_true c1, Nat.le_of_ble_eq_true c2, c3, ?_⟩
      simp only [cond_true] at h
      split at h
      · rename_i i hr hl1
        split at h
        · rename_i j hl2 hl3
          split at h
          · rename_i w hl4
            cases hb : Nat.blt i nL with
            | false => rw [hb] at h; cases h
            | true =>
              rw [hb] at h
              cases h
              exact ⟨hr, i, j, w, Nat.le_of_ble_eq_true hb, hl1, hl2, hl3, hl4, rfl⟩
          · cases h
        · cases h
      · cases h
/-- an exception is caught, laid by, and a number answered -/
theorem sn_caught (X : CxS p l R s m args meth c G C nL sz mc d B cc own) (hH : HsOK own C) (hcode : ∀ x ∈ C.code, decode cc x.1 = .ok x.2) (hlg : ∀ e ∈ C.longs, (Cond.constantLong own e.1 e.2).before args s = true) {pc : Nat} {E : String} {v : Value} {ce : Cell} {q : Addr} {H : Heap} {locs : List Loc} {ls : Array Slot} {rest : List Value} {k2 n2 : Nat} (hk : k2 ≤ B.2.2.1) (hk2 : n2 ≤ B.2.2.2)
    (hE : E ∈ excL) (hh : hnd C nL pc E C.hs = some (some v)) {l0 : List (Nat × Value)} (hl0 : lv_has ls nL l0)
    (hP : va_P G.D vwCl (wl G M0 C.cs) H) (hS : va_S (AG G C.cs sz) s.heap H locs) (ho : o0 = .inl (some v)) (hcell : H[q]? = some ce) (hv : ce.vm = .none) (hcl : s.vm.findClass E = some ce.cls) :
    vx_W p l e R s m args below meth c H locs k2 n2 (QM below G C o0 M0 sz B args s) (F0 m pc ls rest) q := by
  obtain ⟨⟨hx, hb, hml, hown, hts⟩, hK, hG, hsz, hnd, hst, hlocks, hret, hcap, -, -, -, -, ⟨hM1, hM2⟩, htab⟩ := X
  obtain ⟨pre, x, suf, e1, e2, e3, e4, e5, e6, e7⟩ := hnd_sp hh
  have hmx : x ∈ C.hs := by rw [e1]; simp
  refine vx_catch (E := E) (name := E) hown (tableOf (pre.map fun h => (h.1, h.2.1, h.2.2.1, h.2.2.2.1))) ⟨x.1, x.2.1, x.2.2.1, x.2.2.2.1⟩ (tableOf (suf.map fun h => (h.1, h.2.1, h.2.2.1, h.2.2.2.1))) (by rw [htab, e1]; simp [tableOf]) ?_ (by simp [covers, e3, e4]) (hH x hmx).1 (by rw [← e5]; exact hts _ (hH x hmx).2.1) (va_Nw.use rfl (hK.2.2.2.2.2.2.1 E hE)) hcell hv hcl ?_
  · intro z hz
    obtain ⟨z0, hz0, rfl⟩ := List.mem_map.mp hz
    obtain ⟨z1, hz1, rfl⟩ := List.mem_map.mp hz0
    have hmz : z1 ∈ C.hs := by rw [e1]; simp [hz1]
    by_cases hcov : z1.1 ≤ pc ∧ pc < z1.2.1
    · have hne : z1.2.2.2.2 ≠ E := fun h => e2 z1 hz1 ⟨hcov.1, hcov.2, h⟩
      exact Or.inr ⟨(hH z1 hmz).1, z1.2.2.2.2, hts _ (hH z1 hmz).2.1, hK.2.2.2.2.2.1 E hE _ (hH z1 hmz).2.2 (Ne.symm hne)⟩
    · refine Or.inl ?_
      simp only [covers]
      by_cases h1 : z1.1 ≤ pc
      · have h2 : ¬ pc < z1.2.1 := fun h => hcov ⟨h1, h⟩
        simp [h2]
      · simp [h1]
  · obtain ⟨x1, x2, x3, x4, x5⟩ := x
    dsimp only at e7 ⊢
    obtain ⟨i, j, w, hi, c1, c2, c3, c4, rfl⟩ := e7
    have d1 : decode cc x3 = .ok (.astore i, 2) := hcode (x3, .astore i, 2) (lk_mem c1)
    have d2 : decode cc (x3 + 2) = .ok (.ldc2_w j, 3) := hcode (x3 + 2, .ldc2_w j, 3) (lk_mem c2)
    have d3 : decode cc (x3 + 2 + 3) = .ok (.lreturn, 1) := hcode (x3 + 5, .lreturn, 1) (lk_mem c3)
    refine lv_astore hx hb d1 hl0 hi rfl (fun ls' _ => ?_)
    refine lv_ldc2 hx hb hown (hlg _ (lk_mem c4)) d2 ?_
    refine W.widen hk hk2 (vx_ret ?_)
    exact W.lret hx hb (by rw [hret]; exact e6) (fun t ht _ => ⟨⟨some (.long w), ho, rfl, by rw [ht]; exact hP⟩, hS.F ht⟩) hS.2.2 d3 hlocks
end SndK
