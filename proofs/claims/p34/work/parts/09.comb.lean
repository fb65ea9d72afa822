/-! RUNS PUT TOGETHER: a state's end as a function of what comes -/
section Comb
variable {C : Cfg}
theorem runA_app : ∀ (a b : List (Nat ⊕ List Nat)) (x y : St) (r : Option (St ⊕ Ou)), runA C a x = some (.inl y) → runA C b y = r → runA C (a ++ b) x = r
  | [], b, x, y, r, h, hb => by cases h; exact hb
  | .inl n :: q, b, x, y, r, h, hb => by
    unfold runA at h
    show runA C (.inl n :: (q ++ b)) x = r
    unfold runA
    split at h
    · rename_i z hz
      exact runA_app q b z y r h hb
    · rename_i hne
      exact absurd h (hne y)
  | .inr is :: q, b, x, y, r, h, hb => runA_app q b _ y r h hb
theorem Rto.refl (x : St) : Rto C x x := ⟨[], rfl⟩
theorem Rto.trans {x y z : St} (h1 : Rto C x y) (h2 : Rto C y z) : Rto C x z := by
  obtain ⟨a, ha⟩ := h1
  obtain ⟨b, hb⟩ := h2
  exact ⟨a ++ b, runA_app a b x y _ ha hb⟩
theorem Rto.end {x y : St} {o : Res} {M : Mem} (h1 : Rto C x y) (h2 : Rend C y o M) : Rend C x o M := by
  obtain ⟨a, ha⟩ := h1
  obtain ⟨b, k, hb⟩ := h2
  exact ⟨a ++ b, k, runA_app a b x y _ ha hb⟩
theorem Rto.run {x y : St} (n : Nat) (h : run C n x = some (.inl y)) : Rto C x y := ⟨[.inl n], by unfold runA; rw [h]; rfl⟩
theorem Rend.run {x : St} {o : Res} {M : Mem} {k : Nat} (n : Nat) (h : run C n x = some (.inr (o, M, k))) : Rend C x o M := ⟨[.inl n], k, by unfold runA; rw [h]⟩
theorem Rto.fgt {pc : Nat} {lo lo' : List (Option Value)} {y : List Value × Mem × Nat} (is : List Nat) (h : fgt is lo = lo') : Rto C (pc, lo, y) (pc, lo', y) := ⟨[.inr is], by subst h; rfl⟩
theorem Rto.eq {x y : St} (h : x = y) : Rto C x y := h ▸ Rto.refl x
/-- where a run goes -/
def Rg (C : Cfg) (x : St) : St ⊕ (Res × Mem) → Prop
  | .inl y => Rto C x y
  | .inr r => Rend C x r.1 r.2
theorem Rto.g {x y : St} {z : St ⊕ (Res × Mem)} (h1 : Rto C x y) (h2 : Rg C y z) : Rg C x z := by
  cases z with
  | inl z => exact h1.trans h2
  | inr r => exact h1.end h2
/-- from x the machine goes where F, if it says something, and P say -/
def RG (C : Cfg) {X : Type} (x : St) (F : Option X) (P : X → St ⊕ (Res × Mem)) : Prop := ∀ v, F = some v → Rg C x (P v)
variable {X : Type} {x y : St} {F F1 F2 : Option X} {P : X → St ⊕ (Res × Mem)}
theorem RG.step (h : Rto C x y) (k : RG C y F P) : RG C x F P := fun v hv => h.g (k v hv)
theorem RG.st (n : Nat) (h : run C n x = some (.inl y)) (k : RG C y F P) : RG C x F P := fun v hv => (Rto.run n h).g (k v hv)
theorem RG.none : RG C x (Option.none : Option X) P := fun v h => by cases h
theorem RG.ite {c : Prop} [Decidable c] (k1 : c → RG C x F1 P) (k2 : ¬ c → RG C x F2 P) : RG C x (if c then F1 else F2) P := by
  by_cases h : c
  · rw [if_pos h]; exact k1 h
  · rw [if_neg h]; exact k2 h
theorem RG.guard {c : Prop} [Decidable c] (k1 : c → RG C x F1 P) : RG C x (if c then F1 else Option.none) P := RG.ite k1 fun _ => RG.none
theorem RG.guardN {c : Prop} [Decidable c] (k1 : ¬ c → RG C x F1 P) : RG C x (if c then Option.none else F1) P := RG.ite (fun _ => RG.none) k1
theorem RG.to {v : X} {y : St} (hP : P v = .inl y) (h : Rto C x y) : RG C x (some v) P := fun w hw => by
  cases hw; rw [hP]; exact h
theorem RG.fin {v : X} {o : Res} {M : Mem} (hP : P v = .inr (o, M)) (h : Rend C x o M) : RG C x (some v) P := fun w hw => by
  cases hw; rw [hP]; exact h
theorem RG.bind {Y : Type} {D : Option Y} {f : Y → Option X} (k : ∀ w, D = some w → RG C x (f w) P) : RG C x (D.bind f) P := by
  cases h : D with
  | none => exact RG.none
  | some w => exact k w h
variable {pc n q : Nat} {off : Int} {lo : List (Option Value)} {z : List Value × Mem × Nat}
theorem RG.brT {c : Prop} [Decidable c] (h : c) (ht : tgt pc off = q) (k : RG C (q, lo, z) F P) : RG C (br (decide c) pc n off, lo, z) F P := by
  rw [show br (decide c) pc n off = q by unfold br; rw [decide_eq_true h]; exact ht]; exact k
theorem RG.brF {c : Prop} [Decidable c] (h : ¬ c) (ht : pc + n = q) (k : RG C (q, lo, z) F P) : RG C (br (decide c) pc n off, lo, z) F P := by
  rw [show br (decide c) pc n off = q by unfold br; rw [decide_eq_false h]; exact ht]; exact k
theorem RG.brNT {c : Prop} [Decidable c] (h : ¬ c) (ht : tgt pc off = q) (k : RG C (q, lo, z) F P) : RG C (br (!decide c) pc n off, lo, z) F P := by
  rw [show br (!decide c) pc n off = q by unfold br; rw [decide_eq_false h]; exact ht]; exact k
theorem RG.brNF {c : Prop} [Decidable c] (h : c) (ht : pc + n = q) (k : RG C (q, lo, z) F P) : RG C (br (!decide c) pc n off, lo, z) F P := by
  rw [show br (!decide c) pc n off = q by unfold br; rw [decide_eq_true h]; exact ht]; exact k
theorem Rto.brT {c : Prop} [Decidable c] (h : c) (ht : tgt pc off = q) : Rto C (br (decide c) pc n off, lo, z) (q, lo, z) := Rto.eq (by
  rw [show br (decide c) pc n off = q by unfold br; rw [decide_eq_true h]; exact ht])
theorem Rto.brF {c : Prop} [Decidable c] (h : ¬ c) (ht : pc + n = q) : Rto C (br (decide c) pc n off, lo, z) (q, lo, z) := Rto.eq (by
  rw [show br (decide c) pc n off = q by unfold br; rw [decide_eq_false h]; exact ht])
theorem Rto.brNT {c : Prop} [Decidable c] (h : ¬ c) (ht : tgt pc off = q) : Rto C (br (!decide c) pc n off, lo, z) (q, lo, z) := Rto.eq (by
  rw [show br (!decide c) pc n off = q by unfold br; rw [decide_eq_false h]; exact ht])
theorem Rto.brNF {c : Prop} [Decidable c] (h : c) (ht : pc + n = q) : Rto C (br (!decide c) pc n off, lo, z) (q, lo, z) := Rto.eq (by
  rw [show br (!decide c) pc n off = q by unfold br; rw [decide_eq_true h]; exact ht])
end Comb
/-- a loop (by well-founded recursion, so that no unifier runs it): g says of one turn's start whether there is another turn, or what comes of it -/
def iter {A B : Type} (g : A → Option (A ⊕ B)) : Nat → A → Option B
  | 0, _ => none
  | n + 1, a => match g a with
    | some (.inl b) => iter g n b
    | some (.inr b) => some b
    | none => none
termination_by n _ => n
/-- one turn's goal: the head again, the exit, or the method's end -/
def lpP {A Y : Type} (hd ex : A → St) (rt : Y → Res × Mem) : A ⊕ (A ⊕ Y) → St ⊕ (Res × Mem)
  | .inl a => .inl (hd a)
  | .inr (.inl a) => .inl (ex a)
  | .inr (.inr r) => .inr (rt r)
theorem iter_g {C : Cfg} {A Y : Type} {hd ex : A → St} {rt : Y → Res × Mem} {g : A → Option (A ⊕ (A ⊕ Y))} (h : ∀ a, RG C (hd a) (g a) (lpP hd ex rt)) : ∀ (n : Nat) (a : A) (b : A ⊕ Y), iter g n a = some b → Rg C (hd a) (match b with | .inl a => .inl (ex a) | .inr r => .inr (rt r))
  | 0, a, b, hi => by unfold iter at hi; cases hi
  | n + 1, a, b, hi => by
    unfold iter at hi
    split at hi
    · rename_i a' hg
      exact Rto.g (h a _ hg) (iter_g h n a' b hi)
    · rename_i b' hg
      cases hi
      have := h a _ hg
      cases b with
      | inl a => exact this
      | inr r => exact this
    · cases hi
/-- behind a loop -/
def onIt {A X Y : Type} (D : Option (A ⊕ Y)) (f : A → Option X) (e : Y → Option X) : Option X := match D with
  | some (.inl a) => f a
  | some (.inr r) => e r
  | none => none
theorem RG.loop {C : Cfg} {X A Y : Type} {P : X → St ⊕ (Res × Mem)} {hd ex : A → St} {rt : Y → Res × Mem} {g : A → Option (A ⊕ (A ⊕ Y))} {n : Nat} {a : A} {f : A → Option X} {e : Y → Option X} (h : ∀ a, RG C (hd a) (g a) (lpP hd ex rt)) (k : ∀ a, RG C (ex a) (f a) P) (ke : ∀ r v, e r = some v → P v = .inr (rt r)) : RG C (hd a) (onIt (iter g n a) f e) P := by
  intro v hv
  cases hi : iter g n a with
  | none => rw [hi] at hv; cases hv
  | some b =>
    have hg := iter_g h n a b hi
    rw [hi] at hv
    cases b with
    | inl b => exact Rto.g hg (k b v hv)
    | inr r => rw [ke r v hv]; exact hg
/-- behind a call that may throw or write: an int, a long, nothing; a throw goes on -/
def onI {X : Type} (D : Option (Res × Mem)) (f : Int32 → Mem → Option X) (e : Res × Mem → Option X) : Option X := match D with
  | some (.inl (some (.int v)), M) => f v M
  | some (.inr E, M) => e (.inr E, M)
  | _ => none
def onL {X : Type} (D : Option (Res × Mem)) (f : Int64 → Mem → Option X) (e : Res × Mem → Option X) : Option X := match D with
  | some (.inl (some (.long v)), M) => f v M
  | some (.inr E, M) => e (.inr E, M)
  | _ => none
def onV {X : Type} (D : Option (Res × Mem)) (f : Mem → Option X) (e : Res × Mem → Option X) : Option X := match D with
  | some (.inl none, M) => f M
  | some (.inr E, M) => e (.inr E, M)
  | _ => none
section CombC
variable {C : Cfg} {X : Type} {x : St} {P : X → St ⊕ (Res × Mem)} {D : Option (Res × Mem)} {e : Res × Mem → Option X}
theorem RG.callI {f : Int32 → Mem → Option X} (k : ∀ v M, D = some (.inl (some (.int v)), M) → RG C x (f v M) P) (ke : ∀ E M, D = some (.inr E, M) → RG C x (e (.inr E, M)) P) : RG C x (onI D f e) P := by
  unfold onI
  split
  · exact k _ _ rfl
  · exact ke _ _ rfl
  · exact RG.none
theorem RG.callL {f : Int64 → Mem → Option X} (k : ∀ v M, D = some (.inl (some (.long v)), M) → RG C x (f v M) P) (ke : ∀ E M, D = some (.inr E, M) → RG C x (e (.inr E, M)) P) : RG C x (onL D f e) P := by
  unfold onL
  split
  · exact k _ _ rfl
  · exact ke _ _ rfl
  · exact RG.none
theorem RG.callV {f : Mem → Option X} (k : ∀ M, D = some (.inl Option.none, M) → RG C x (f M) P) (ke : ∀ E M, D = some (.inr E, M) → RG C x (e (.inr E, M)) P) : RG C x (onV D f e) P := by
  unfold onV
  split
  · exact k _ rfl
  · exact ke _ _ rfl
  · exact RG.none
end CombC
