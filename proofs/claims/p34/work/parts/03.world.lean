/-! THE WORLD of the abstract machine: the numbered cells lie at addresses of their own -/
def TB : List Cond := lw_tbl.filter goodWord
abbrev vwCl : List vw_C := [(RX0, TX0, 1), (RX1, TX1, 7), (RX2, TX2, 10), (RX3, TX3, 3), (RX6, TX6, 3), (RX7, TX7, 7)]
/-- what is fixed for a run: the classes' numbers and slots, the arrays' classes, the cells' addresses, the heap's size at the start -/
abbrev Gh : Type := va_G × (Nat → ClassId) × (Nat → Nat) × Nat
abbrev Gh.D (G : Gh) : va_G := G.1
abbrev Gh.cA (G : Gh) : Nat → ClassId := G.2.1
abbrev Gh.ad (G : Gh) : Nat → Nat := G.2.2.1
abbrev Gh.lo (G : Gh) : Nat := G.2.2.2
def cv (G : Gh) : Value → Value
  | .ref k => .ref (G.ad k)
  | v => v
def slotV (G : Gh) (M : Mem) (k : Nat) (tys : List Nat) (j : Nat) : Value := match tys[j]? with
  | some 0 => .int (M.1 k j)
  | some 1 => .long (M.2 k j)
  | some (t + 2) => .ref (G.ad t)
  | none => .null
def cellE (G : Gh) (M : Mem) (k : Nat) : va_E := match LAY[k]? with
  | some (.inl (ci, tys)) => .inr (ci, (List.range tys.length).map (slotV G M k tys))
  | some (.inr (0, len)) => .inl (G.cA 0, len, .inl (M.1 k))
  | some (.inr (1, len)) => .inl (G.cA 1, len, .inr (.inl (M.2 k)))
  | some (.inr (_, len)) => .inl (G.cA 2, len, .inl (M.1 k))
  | none => .inl (G.cA 0, 0, .inl (M.1 k))
def wl (G : Gh) (M : Mem) (cs : List Nat) : va_W := cs.map fun k => (G.ad k, cellE G M k)
def arrT (G : Gh) : List (ClassId × FieldType) := [(G.cA 0, .int), (G.cA 1, .long)]
theorem sI_1 (M : Mem) (k j : Nat) (x : Int32) {k' : Nat} (h : k' ≠ k) : (sI M k j x).1 k' = M.1 k' := by
  funext b; simp [sI, h]
theorem sL_2 (M : Mem) (k j : Nat) (x : Int64) {k' : Nat} (h : k' ≠ k) : (sL M k j x).2 k' = M.2 k' := by
  funext b; simp [sL, h]
theorem cellE_congr {G : Gh} {M M' : Mem} {k : Nat} (h1 : M'.1 k = M.1 k) (h2 : M'.2 k = M.2 k) : cellE G M' k = cellE G M k := by
  have hs : ∀ tys j, slotV G M' k tys j = slotV G M k tys j := fun tys j => by unfold slotV; rw [h1, h2]
  have e : ∀ tys, slotV G M' k tys = slotV G M k tys := fun tys => funext (hs tys)
  unfold cellE
  simp only [h1, h2, e]
theorem wl_at {G : Gh} {M : Mem} {cs : List Nat} {k : Nat} (h : k ∈ cs) : ∃ q0 : Nat, cs[q0]? = some k ∧ (wl G M cs)[q0]? = some (G.ad k, cellE G M k) := by
  obtain ⟨q0, hq⟩ := List.getElem?_of_mem h
  exact ⟨q0, hq, by simp [wl, hq]⟩
theorem wl_set {G : Gh} {M M' : Mem} {cs : List Nat} (hn : cs.Nodup) {q0 k : Nat} (hq : cs[q0]? = some k) (h : ∀ k', k' ≠ k → cellE G M' k' = cellE G M k') : (wl G M cs).set q0 (G.ad k, cellE G M' k) = wl G M' cs := by
  apply List.ext_getElem?
  intro i
  by_cases hi : i = q0
  · subst hi
    have hl := (List.getElem?_eq_some_iff.mp hq).1
    rw [List.getElem?_set_self (by simpa [wl] using hl)]
    simp [wl, hq]
  · rw [List.getElem?_set_ne (Ne.symm hi)]
    simp only [wl, List.getElem?_map]
    cases hc : cs[i]? with
    | none => rfl
    | some k' =>
      have hne : k' ≠ k := fun e => by
        subst e
        have h1 := (List.getElem?_eq_some_iff.mp hc).1
        have h2 := (List.getElem?_eq_some_iff.mp hq).1
        exact hi ((List.getElem?_inj h1 hn).mp (hc.trans hq.symm))
      simp only [Option.map_some]
      rw [h k' hne]
/-- the addresses are apart and new -/
def GhOK (G : Gh) (cs : List Nat) (sz : Nat) : Prop := (∀ a ∈ cs, ∀ b ∈ cs, G.ad a = G.ad b → a = b) ∧ (∀ k ∈ cs, G.lo ≤ G.ad k) ∧ G.lo ≤ sz
/-- which cells a method may write: the world's, and new ones -/
def AG (G : Gh) (cs : List Nat) (sz : Nat) : Nat → Prop := fun q => (∃ k ∈ cs, q = G.ad k) ∨ sz ≤ q
theorem AG_lo {G : Gh} {cs : List Nat} {sz : Nat} (h : GhOK G cs sz) : ∀ q, AG G cs sz q → G.lo ≤ q := by
  rintro q (⟨k, hk, rfl⟩ | h1)
  · exact h.2.1 k hk
  · exact Nat.le_trans h.2.2 h1
theorem wl_D {G : Gh} {M : Mem} {cs : List Nat} {sz : Nat} (hn : cs.Nodup) (h : GhOK G cs sz) : va_D (AG G cs sz) (wl G M cs) := by
  refine ⟨fun i j p q hi hj e => ?_, fun k q hk => ?_⟩
  · simp only [wl, List.getElem?_map] at hi hj
    cases hi' : cs[i]? with
    | none => rw [hi'] at hi; cases hi
    | some a =>
      cases hj' : cs[j]? with
      | none => rw [hj'] at hj; cases hj
      | some b =>
        rw [hi'] at hi; rw [hj'] at hj
        cases hi; cases hj
        have hab := h.1 a (List.mem_of_getElem? hi') b (List.mem_of_getElem? hj') e
        subst hab
        exact (List.getElem?_inj (List.getElem?_eq_some_iff.mp hi').1 hn).mp (hi'.trans hj'.symm)
  · simp only [wl, List.getElem?_map] at hk
    cases hk' : cs[k]? with
    | none => rw [hk'] at hk; cases hk
    | some a =>
      rw [hk'] at hk; cases hk
      exact Or.inl ⟨a, List.mem_of_getElem? hk', rfl⟩
/-- the texts that are thrown, by class, number and text; the nest mates' calls; pairs of exceptions, one no kind of the other -/
def strL : List (String × Nat × String) := [("Sumsetry", 58, "no such group"), ("Sumsetry", 261, "no such element"), ("Sumsetry", 92, "empty, or what is no element"), ("Sumsetry", 273, "empty, or too many sets"), ("Sumsetry", 258, "no such set"), ("Sumsetry", 101, "no such way to combine"), ("Sumsetry", 111, "times out of range"), ("Sumsetry", 125, "least out of range"), ("Sumsetry", 154, "many out of range"), ("Sumsetry", 265, "order out of range"), ("Sumsetry", 267, "a set is too great"), ("Sumsetry", 263, "no such rule"), ("Sumsetry", 269, "the set is too great"), ("Sumsetry", 196, "what is no element, or the rule is not kept"), ("Sumsetry", 200, "the group is too great"), ("Sumsetry", 210, "the row is full"), ("Sumsetry", 233, "no prime, or no root of it"), ("Sumsetry", 238, "m is not 1"), ("Sumsetry", 242, "k out of range"), ("Sumsetry", 271, "no root was told"), ("Sumsetry", 254, "what out of range")]
def nestL : List (String × Nat × MethodName × String) := [("Sumsetry$Group", 29, ⟨"Sumsetry", "bit", "(I)J"⟩, "Sumsetry"), ("Sumsetry$Group", 53, ⟨"Sumsetry", "share", "(II)I"⟩, "Sumsetry"), ("Sumsetry$Group", 56, ⟨"Sumsetry", "rest", "(II)I"⟩, "Sumsetry"), ("Sumsetry$Group", 47, ⟨"Sumsetry", "lay", "([III)V"⟩, "Sumsetry"), ("Sumsetry", 26, ⟨"Sumsetry$Maps", "<init>", "()V"⟩, "Sumsetry"), ("Sumsetry", 33, ⟨"Sumsetry$Game", "<init>", "()V"⟩, "Sumsetry"), ("Sumsetry", 40, ⟨"Sumsetry$Row", "<init>", "()V"⟩, "Sumsetry"), ("Sumsetry", 47, ⟨"Sumsetry$Transforms", "<init>", "()V"⟩, "Sumsetry"), ("Sumsetry$Row", 38, ⟨"Sumsetry", "at", "([II)I"⟩, "Sumsetry"), ("Sumsetry$Row", 22, ⟨"Sumsetry", "lay", "([III)V"⟩, "Sumsetry"), ("Sumsetry$Group", 59, ⟨"Sumsetry", "at", "([II)I"⟩, "Sumsetry"), ("Sumsetry$Group", 73, ⟨"Sumsetry", "lowest", "(J)I"⟩, "Sumsetry"), ("Sumsetry$Group", 80, ⟨"Sumsetry", "withoutLowest", "(J)J"⟩, "Sumsetry"), ("Sumsetry$Group", 63, ⟨"Sumsetry", "has", "(JI)Z"⟩, "Sumsetry"), ("Sumsetry$Maps", 64, ⟨"Sumsetry", "has", "(JI)Z"⟩, "Sumsetry"), ("Sumsetry$Maps", 68, ⟨"Sumsetry", "lay", "([III)V"⟩, "Sumsetry"), ("Sumsetry$Maps", 55, ⟨"Sumsetry", "at", "([II)I"⟩, "Sumsetry"), ("Sumsetry$Maps", 89, ⟨"Sumsetry", "bit", "(I)J"⟩, "Sumsetry"), ("Sumsetry$Rules", 30, ⟨"Sumsetry", "lowest", "(J)I"⟩, "Sumsetry"), ("Sumsetry$Rules", 39, ⟨"Sumsetry", "withoutLowest", "(J)J"⟩, "Sumsetry"), ("Sumsetry$Game", 47, ⟨"Sumsetry", "has", "(JI)Z"⟩, "Sumsetry"), ("Sumsetry$Game", 51, ⟨"Sumsetry", "at", "([II)I"⟩, "Sumsetry"), ("Sumsetry$Game", 25, ⟨"Sumsetry", "lay", "([III)V"⟩, "Sumsetry"), ("Sumsetry$Game", 37, ⟨"Sumsetry", "bit", "(I)J"⟩, "Sumsetry"), ("Sumsetry$Transforms", 42, ⟨"Sumsetry", "share", "(II)I"⟩, "Sumsetry"), ("Sumsetry$Transforms", 15, ⟨"Sumsetry", "rest", "(II)I"⟩, "Sumsetry"), ("Sumsetry$Transforms", 26, ⟨"Sumsetry", "lay", "([III)V"⟩, "Sumsetry"), ("Sumsetry$Transforms", 30, ⟨"Sumsetry", "has", "(JI)Z"⟩, "Sumsetry"), ("Sumsetry$Transforms", 45, ⟨"Sumsetry", "at", "([II)I"⟩, "Sumsetry")]
def excL : List String := ["java/lang/IllegalArgumentException", "java/lang/IllegalStateException", "java/lang/IndexOutOfBoundsException"]
/-- constructors that the exceptions' own chain runs through -/
def decL : List MethodName := [⟨"java/lang/RuntimeException", "<init>", "(Ljava/lang/String;)V"⟩, ⟨"java/lang/Exception", "<init>", "(Ljava/lang/String;)V"⟩, ⟨"java/lang/Throwable", "<init>", "(Ljava/lang/String;)V"⟩]
/-- what a state's tables and statics give, everywhere in the run -/
def KW (G : Gh) (U : State) : Prop := va_K G.D vwCl (arrT G) U ∧ vx_Zq Bundle.tN "UNASSIGNED_STACK" Bundle.steD (fun q => G.lo ≤ q) U U.heap ∧ vx_Zq Bundle.tN "SUPPRESSED_SENTINEL" Bundle.listD (fun q => G.lo ≤ q) U U.heap ∧
  (∀ e ∈ strL, ∃ a, vk_R e.1 e.2.1 e.2.2 a U) ∧ (∀ e ∈ nestL, va_Nw (.methodLinkNest e.1 e.2.1 e.2.2.1 e.2.2.2) U) ∧ (∀ a ∈ excL, ∀ b ∈ excL, a ≠ b → va_Nc a b U) ∧ (∀ a ∈ excL, va_Nw (.castable a a) U) ∧ (∀ a ∈ decL, va_Nw (.declares a) U)
theorem KW.move {G : Gh} {s U : State} {H : Heap} {locs : List Loc} {A : Nat → Prop} (h : KW G s) (hU : U.heap = H) (hW : s.WarmedH U.vm) (hS : va_S A s.heap H locs) (hA : ∀ q, A q → G.lo ≤ q) : KW G U := by
  obtain ⟨h1, h2, h3, h4, h5, h6, h7, h8⟩ := h
  have hk : ∀ a : Nat, a < s.heap.size → ¬ (G.lo ≤ a) → H[a]? = s.heap[a]? := fun a ha hn => hS.2.1 a ha (fun z => hn (hA a z))
  refine ⟨va_K.moved hW.alike h1, ?_, ?_, ?_, ?_, ?_, ?_, ?_⟩
  · rw [hU]; exact vx_Zq.moved hW.alike (h2.kept hk)
  · rw [hU]; exact vx_Zq.moved hW.alike (h3.kept hk)
  · exact fun e he => let ⟨a, ha⟩ := h4 e he; ⟨a, vk_R.warm hW ha⟩
  · exact fun e he => va_Nw.warmM hW (h5 e he)
  · exact fun a ha b hb hab => (h6 a ha b hb hab).moved hW.alike
  · exact fun a ha => va_Nw.warmC hW (h7 a ha)
  · exact fun a ha => va_Nw.warmD hW (h8 a ha)
theorem KW.blind {G : Gh} {U : State} {g : JFrame} {mk : MethodId} {a : Array Value} (h : KW G U) : KW G (U.calling g mk a) := by
  obtain ⟨h1, h2, h3, h4, h5, h6, h7, h8⟩ := h
  refine ⟨va_K.moved (u := U) (U := U.calling g mk a) (Vm.Alike.refl U.vm) h1, ?_, ?_, ?_, ?_, ?_, ?_, ?_⟩
  · exact vx_Zq.moved (u := U) (U := U.calling g mk a) (Vm.Alike.refl U.vm) h2
  · exact vx_Zq.moved (u := U) (U := U.calling g mk a) (Vm.Alike.refl U.vm) h3
  · exact fun e he => let ⟨a, ha⟩ := h4 e he; ⟨a, vk_R.same rfl ha⟩
  · exact fun e he => va_Nw.same (u := U) rfl rfl (h5 e he)
  · exact fun a ha b hb hab => (h6 a ha b hb hab).moved (u := U) (Vm.Alike.refl U.vm)
  · exact fun a ha => va_Nw.same (u := U) rfl rfl (h7 a ha)
  · exact fun a ha => va_Nw.same (u := U) rfl rfl (h8 a ha)
/-! the locals, as the machine has them -/
def lvl (G : Gh) (lo : List (Option Value)) : List (Nat × Value) := (List.range lo.length).filterMap fun i => match lo[i]? with
  | some (some v) => some (i, cv G v)
  | _ => none
theorem lvl_mem {G : Gh} {lo : List (Option Value)} {i : Nat} {v : Value} : (i, v) ∈ lvl G lo ↔ ∃ w, lo[i]? = some (some w) ∧ v = cv G w := by
  unfold lvl
  rw [List.mem_filterMap]
  constructor
  · rintro ⟨j, -, h⟩
    split at h
    · rename_i w hw
      cases h
      exact ⟨w, hw, rfl⟩
    · cases h
  · rintro ⟨w, hw, rfl⟩
    refine ⟨i, List.mem_range.mpr (List.getElem?_eq_some_iff.mp hw).1, ?_⟩
    rw [hw]
theorem lv_less {ls : Array Slot} {nL : Nat} {l l' : List (Nat × Value)} (h : lv_has ls nL l) (hs : ∀ q ∈ l', q ∈ l) : lv_has ls nL l' := ⟨h.1, h.2.1, fun q hq => h.2.2 q (hs q hq)⟩
theorem lvl_get {G : Gh} {lo : List (Option Value)} {ls : Array Slot} {nL i : Nat} {v : Value} (h : lv_has ls nL (lvl G lo)) (hi : lo[i]? = some (some v)) : ls[i]? = some (.val (cv G v)) :=
  h.2.2 (i, cv G v) (lvl_mem.mpr ⟨v, hi, rfl⟩)
theorem cv_cat (G : Gh) (v : Value) : (cv G v).category = v.category := by cases v <;> rfl
theorem cv_cats (G : Gh) (st : List Value) : ((st.map (cv G)).map fun v => v.category).sum = catS st := by
  unfold catS
  rw [List.map_map]
  congr 1
  exact List.map_congr_left fun v _ => cv_cat G v
theorem clr1_len (lo : List (Option Value)) (i : Nat) : (clr1 lo i).length = lo.length := by
  unfold clr1; split
  · rfl
  · split <;> simp
theorem clr1_get {lo : List (Option Value)} {i j : Nat} {w : Value} (h : (clr1 lo i)[j]? = some (some w)) : lo[j]? = some (some w) ∧ ¬ (j + 1 = i ∧ w.category = 2) := by
  unfold clr1 at h
  split at h
  · exact ⟨h, fun z => by omega⟩
  · rename_i k
    have key : ∀ x : Value, lo[k]? = some (some x) → x.category = 2 → (lo.set k none)[j]? = some (some w) → lo[j]? = some (some w) ∧ ¬ (j + 1 = k + 1 ∧ w.category = 2) := by
      intro x hx hc h
      by_cases hjk : j = k
      · subst hjk
        rw [List.getElem?_set_self (List.getElem?_eq_some_iff.mp hx).1] at h
        cases h
      · rw [List.getElem?_set_ne (Ne.symm hjk)] at h
        exact ⟨h, fun z => hjk (by omega)⟩
    split at h
    · rename_i x hx; exact key _ hx rfl h
    · rename_i x hx; exact key _ hx rfl h
    · rename_i h1 h2
      refine ⟨h, fun z => ?_⟩
      have hjk : j = k := by omega
      subst hjk
      cases w with
      | long x => exact h1 x h
      | double x => exact h2 x h
      | _ => exact absurd z.2 (by simp [Value.category])
theorem st1_len (lo : List (Option Value)) (i : Nat) (v : Value) : (st1 lo i v).length = lo.length := by simp [st1, clr1_len]
theorem st2_len (lo : List (Option Value)) (i : Nat) (v : Value) : (st2 lo i v).length = lo.length := by simp [st2, clr1_len]
theorem st1_lv {G : Gh} {lo : List (Option Value)} {ls' : Array Slot} {nL i : Nat} {v : Value} (h : lv_has ls' nL ((i, cv G v) :: (lvl G lo).filter (fun q => !(q.1 == i) && !(q.1 + 1 == i && q.2.category == 2)))) : lv_has ls' nL (lvl G (st1 lo i v)) := by
  refine lv_less h ?_
  rintro ⟨j, x⟩ hq
  obtain ⟨w, hw, rfl⟩ := lvl_mem.mp hq
  unfold st1 at hw
  by_cases hji : j = i
  · subst hji
    have hl := (List.getElem?_eq_some_iff.mp hw).1
    rw [List.getElem?_set_self (by simpa using hl)] at hw
    cases hw
    exact List.mem_cons_self
  · rw [List.getElem?_set_ne (Ne.symm hji)] at hw
    obtain ⟨h1, h2⟩ := clr1_get hw
    refine List.mem_cons_of_mem _ (List.mem_filter.mpr ⟨lvl_mem.mpr ⟨w, h1, rfl⟩, ?_⟩)
    rw [cv_cat]
    simp only [Bool.and_eq_true, Bool.not_eq_true', beq_eq_false_iff_ne, ne_eq, Bool.and_eq_false_iff]
    refine ⟨hji, ?_⟩
    by_cases e : j + 1 = i
    · exact Or.inr fun z => h2 ⟨e, z⟩
    · exact Or.inl e
theorem st2_lv {G : Gh} {lo : List (Option Value)} {ls' : Array Slot} {nL i : Nat} {v : Value} (h : lv_has ls' nL ((i, cv G v) :: (lvl G lo).filter (fun q => !(q.1 == i) && (!(q.1 == i + 1) && !(q.1 + 1 == i && q.2.category == 2))))) : lv_has ls' nL (lvl G (st2 lo i v)) := by
  refine lv_less h ?_
  rintro ⟨j, x⟩ hq
  obtain ⟨w, hw, rfl⟩ := lvl_mem.mp hq
  unfold st2 at hw
  by_cases hj1 : j = i + 1
  · subst hj1
    have hl := (List.getElem?_eq_some_iff.mp hw).1
    rw [List.getElem?_set_self (by simpa using hl)] at hw
    cases hw
  · rw [List.getElem?_set_ne (Ne.symm hj1)] at hw
    by_cases hji : j = i
    · subst hji
      have hl := (List.getElem?_eq_some_iff.mp hw).1
      rw [List.getElem?_set_self (by simpa using hl)] at hw
      cases hw
      exact List.mem_cons_self
    · rw [List.getElem?_set_ne (Ne.symm hji)] at hw
      obtain ⟨h1, h2⟩ := clr1_get hw
      refine List.mem_cons_of_mem _ (List.mem_filter.mpr ⟨lvl_mem.mpr ⟨w, h1, rfl⟩, ?_⟩)
      rw [cv_cat]
      simp only [Bool.and_eq_true, Bool.not_eq_true', beq_eq_false_iff_ne, ne_eq, Bool.and_eq_false_iff]
      refine ⟨hji, hj1, ?_⟩
      by_cases e : j + 1 = i
      · exact Or.inr fun z => h2 ⟨e, z⟩
      · exact Or.inl e
