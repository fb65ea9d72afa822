/-! WHAT EACH CALL ANSWERS, as a function of the house: its group, its sets, its row, its prime and root -/
abbrev HS : Type := (Nat × Nat) × List Nat × List Nat × Nat × Nat
def gN (l : List Nat) (i : Nat) : Nat := l.getD i 0
abbrev Rel (M : Mem) (s : HS) : Prop := InvP M s.1.1 s.1.2 s.2.1.length (gN s.2.1) s.2.2.1.length (gN s.2.2.1) s.2.2.2.1 s.2.2.2.2
/-- an answer, or an exception: 1 of the place, 2 of the argument, 3 of the state -/
abbrev Res2 : Type := Option Value ⊕ Nat
def exT : Nat → String
  | 1 => "java/lang/IndexOutOfBoundsException"
  | 2 => "java/lang/IllegalArgumentException"
  | _ => "java/lang/IllegalStateException"
def toR : Res2 → Res
  | .inl v => .inl v
  | .inr k => .inr (exT k)
abbrev Ans : Type := Res2 × HS
def aI (x : Int32) (s : HS) : Ans := (.inl (some (.int x)), s)
def aL (x : Int64) (s : HS) : Ans := (.inl (some (.long x)), s)
def aX (k : Nat) (s : HS) : Ans := (.inr k, s)
def ixN (v : Int32) (c : Nat) : Option Nat := bif Nat.blt v.toBitVec.toNat c then some v.toBitVec.toNat else none
def rgN (lo hi : Nat) (v : Int32) : Option Nat := bif Nat.ble lo v.toBitVec.toNat && Nat.ble v.toBitVec.toNat hi then some v.toBitVec.toNat else none
def rgZ (lo hi : Int) (v : Int32) : Option Int := bif decide (lo ≤ v.toInt) && decide (v.toInt ≤ hi) then some v.toInt else none
def onO {A : Type} (o : Option A) (k : A → Ans) (e : Ans) : Ans := match o with
  | some x => k x
  | none => e
def onS (s : HS) (v : Int32) (k : Nat → Ans) : Ans := onO (ixN v s.2.1.length) (fun i => k (gN s.2.1 i)) (aX 1 s)
def onE (s : HS) (v : Int32) (k : Nat → Ans) : Ans := onO (ixN v (s.1.1 * s.1.2)) k (aX 1 s)
def kpP (s : HS) (x : Nat) : Ans := bif Nat.beq x 0 || Nat.ble 30 s.2.1.length then aX 3 s else aI (ii s.2.1.length) (s.1, s.2.1 ++ [x], s.2.2)
def p_group (v1 v2 : Int32) (s : HS) : Ans := onO (rgN 1 36 v1) (fun x => onO (rgN 1 36 v2) (fun y => bif Nat.ble (x * y) 36 then aI (ii (x * y)) ((x, y), [], [], 0, 0) else aX 2 s) (aX 2 s)) (aX 2 s)
def p_add (v1 v2 v3 : Int32) (s : HS) : Ans := onE s v1 fun i => onE s v2 fun j => aI (ii (bif decide (v3 = 0) then ad s.1.1 s.1.2 i (ngC s.1.1 s.1.2 j) else ad s.1.1 s.1.2 i j)) s
def p_set (v : Int64) (s : HS) : Ans := bif Nat.beq v.toBitVec.toNat 0 || !(Nat.blt v.toBitVec.toNat (2 ^ (s.1.1 * s.1.2))) then aX 2 s else kpP s v.toBitVec.toNat
def p_combine (v1 v2 v3 : Int32) (s : HS) : Ans := onS s v2 fun x => onS s v3 fun y => onO (rgN 0 5 v1) (fun l => kpP s (cbC s.1.1 s.1.2 l x y)) (aX 2 s)
def p_move (v1 v2 v3 : Int32) (s : HS) : Ans := onS s v1 fun x => onE s v3 fun e => onO (rgZ (-100) 100 v2) (fun t => kpP s (mvC s.1.1 s.1.2 x t e)) (aX 2 s)
def p_elements (v1 : Int32) (s : HS) : Ans := onS s v1 fun x => aL (ll x) s
def p_ways (v1 v2 v3 : Int32) (s : HS) : Ans := onS s v1 fun x => onS s v2 fun y => onE s v3 fun e => aI (ii (wyC s.1.1 s.1.2 x y e)) s
def p_popular (v1 v2 v3 : Int32) (s : HS) : Ans := onS s v1 fun x => onS s v2 fun y => onO (rgN 1 36 v3) (fun l => aL (ll (popC s.1.1 s.1.2 x y l)) s) (aX 2 s)
def p_energy (v1 v2 : Int32) (s : HS) : Ans := onS s v1 fun x => onS s v2 fun y => aI (ii (enC s.1.1 s.1.2 x y)) s
def p_energyAnew (v1 v2 : Int32) (s : HS) : Ans := onS s v1 fun x => onS s v2 fun y => aI (ii (eaC s.1.1 s.1.2 x y)) s
def p_stabilizer (v1 : Int32) (s : HS) : Ans := onS s v1 fun x => aL (ll (stbC s.1.1 s.1.2 x)) s
def exF (m n x y S H : Nat) : Int32 := ((ii (sz S) - ii (sz (smC m n x H))) - ii (sz (smC m n y H))) + ii (sz H)
def exC (m n x y : Nat) : Int32 := exF m n x y (smC m n x y) (stbC m n (smC m n x y))
def p_excess (v1 v2 : Int32) (s : HS) : Ans := onS s v1 fun x => onS s v2 fun y => aI (exC s.1.1 s.1.2 x y) s
def slC (m n x y z : Nat) : Int32 := ii (sz (smC m n x (mirC m n y))) * ii (sz (smC m n y (mirC m n z))) - ii (sz (smC m n x (mirC m n z))) * ii (sz y)
def p_slack (v1 v2 v3 : Int32) (s : HS) : Ans := onS s v1 fun x => onS s v2 fun y => onS s v3 fun z => aI (slC s.1.1 s.1.2 x y z) s
def p_cover (v1 v2 : Int32) (s : HS) : Ans := onS s v1 fun x => onS s v2 fun y => aL (ll (cvC s.1.1 s.1.2 x y (s.1.1 * s.1.2)).1) s
def p_sums (v1 v2 : Int32) (s : HS) : Ans := onS s v1 fun x => onO (rgN 1 100 v2) (fun l => aL (ll (hsC s.1.1 s.1.2 x (l - 1))) s) (aX 2 s)
def p_order (v1 : Int32) (s : HS) : Ans := onS s v1 fun x => aI (odC s.1.1 s.1.2 x) s
def p_essential (v1 : Int32) (s : HS) : Ans := onS s v1 fun x => aL (ll (esC s.1.1 s.1.2 x)) s
def smallB (m n x y : Nat) : Bool := Nat.ble (pc x.testBit (m * n)) 6 && Nat.ble (pc y.testBit (m * n)) 6
def p_image (v1 v2 v3 v4 : Int32) (s : HS) : Ans := onS s v1 fun x => onS s v2 fun y => onE s v4 fun v => onO (rgN 2 3 v3) (fun o => bif smallB s.1.1 s.1.2 x y then aI (imC s.1.1 s.1.2 o x y v) s else aX 3 s) (aX 2 s)
def p_maps (v1 v2 v3 : Int32) (s : HS) : Ans := onS s v1 fun x => onS s v2 fun y => onO (rgN 2 3 v3) (fun o => bif smallB s.1.1 s.1.2 x y then aI (mpC s.1.1 s.1.2 o x y) s else aX 3 s) (aX 2 s)
def p_keeps (v1 v2 : Int32) (s : HS) : Ans := onS s v1 fun x => onO (rgN 0 3 v2) (fun l => aI (boI (kpC s.1.1 s.1.2 l x)) s) (aX 1 s)
def p_greatest (v1 v2 : Int32) (s : HS) : Ans := onS s v1 fun x => onO (rgN 0 3 v2) (fun l => bif Nat.ble (sz x) 12 then aL (ll (gsC s.1.1 s.1.2 l x (x + 1))) s else aX 3 s) (aX 1 s)
def p_wins (v1 : Int32) (v2 : Int64) (s : HS) : Ans := onO (rgN 0 3 v1) (fun l => bif !(Nat.blt v2.toBitVec.toNat (2 ^ (s.1.1 * s.1.2))) || !(kpC s.1.1 s.1.2 l v2.toBitVec.toNat) then aX 2 s else bif Nat.ble (s.1.1 * s.1.2) 10 then aL (ll (wnC s.1.1 s.1.2 l v2.toBitVec.toNat)) s else aX 3 s) (aX 1 s)
def p_put (v1 : Int32) (s : HS) : Ans := onE s v1 fun e => bif Nat.ble 12 s.2.2.1.length then aX 3 s else aI (ii (s.2.2.1.length + 1)) (s.1, s.2.1, s.2.2.1 ++ [e], s.2.2.2)
def p_wipe (s : HS) : Ans := aI (ii s.2.2.1.length) (s.1, s.2.1, [], s.2.2.2)
def p_zero (s : HS) : Ans := aI (ii (zb s.1.1 s.1.2 (gN s.2.2.1) s.2.2.1.length (2 ^ s.2.2.1.length))) s
def p_constant (s : HS) : Ans := bif Nat.ble (s.1.1 * s.1.2) 10 then aI (ii (constC s.1.1 s.1.2)) s else aX 3 s
def p_root (v1 v2 : Int32) (s : HS) : Ans := onO (rgN 2 9999 v1) (fun x => onO (rgN 1 (x - 1) v2) (fun y => bif !(prC x && orC x y s.1.2) then aX 2 s else bif Nat.beq s.1.1 1 then (.inl none, (s.1, s.2.1, s.2.2.1, x, y)) else aX 3 s) (aX 2 s)) (aX 2 s)
def p_transform (v1 v2 : Int32) (s : HS) : Ans := onS s v1 fun x => onO (rgN 0 (s.1.2 - 1) v2) (fun k => bif Nat.beq s.2.2.2.1 0 then aX 3 s else aI (ii (trf s.2.2.2.1 s.2.2.2.2 s.1.2 x k)) s) (aX 2 s)
def p_waysAnew (v1 v2 v3 : Int32) (s : HS) : Ans := onS s v1 fun x => onS s v2 fun y => onE s v3 fun e => bif Nat.beq s.2.2.2.1 0 then aX 3 s else aI (ii (wsum s.2.2.2.1 s.2.2.2.2 s.1.2 x y e % s.2.2.2.1 * (s.2.2.2.1 - (s.2.2.2.1 - 1) / s.1.2) % s.2.2.2.1)) s
def ofC (s : HS) : Nat → Nat
  | 0 => s.1.1
  | 1 => s.1.2
  | 2 => s.2.1.length
  | 3 => s.2.2.1.length
  | _ => s.2.2.2.1
def p_of (v1 : Int32) (s : HS) : Ans := onO (rgN 0 4 v1) (fun l => aI (ii (ofC s l)) s) (aX 2 s)
/-! how the class goes with it -/
def Go (D : Option (Res × Mem)) (x : Ans) : Prop := ∃ M' : Mem, D = some (toR x.1, M') ∧ Rel M' x.2
theorem Go.i {M : Mem} {s : HS} {D : Option (Res × Mem)} {x : Int32} (h : Rel M s) (e : D = some (.inl (some (.int x)), M)) : Go D (aI x s) := ⟨M, e, h⟩
theorem Go.l {M : Mem} {s : HS} {D : Option (Res × Mem)} {x : Int64} (h : Rel M s) (e : D = some (.inl (some (.long x)), M)) : Go D (aL x s) := ⟨M, e, h⟩
theorem Go.x1 {M : Mem} {s : HS} {D : Option (Res × Mem)} (h : Rel M s) (e : D = some (.inr "java/lang/IndexOutOfBoundsException", M)) : Go D (aX 1 s) := ⟨M, e, h⟩
theorem Go.x2 {M : Mem} {s : HS} {D : Option (Res × Mem)} (h : Rel M s) (e : D = some (.inr "java/lang/IllegalArgumentException", M)) : Go D (aX 2 s) := ⟨M, e, h⟩
theorem Go.x3 {M : Mem} {s : HS} {D : Option (Res × Mem)} (h : Rel M s) (e : D = some (.inr "java/lang/IllegalStateException", M)) : Go D (aX 3 s) := ⟨M, e, h⟩
theorem ix_ok {i c : Nat} (hi : i < c) (hc : c < 2147483648) : ixN (ii i) c = some i := by
  unfold ixN
  rw [ii_nat, Nat.mod_eq_of_lt (by omega), show Nat.blt i c = true from Nat.ble_eq_true_of_le hi, cond_true]
theorem ix_bad {v : Int32} {c : Nat} (b : noI v c) (hc : c < 2147483648) : ixN v c = none := by
  unfold ixN
  cases e : Nat.blt v.toBitVec.toNat c with
  | false => rfl
  | true =>
    exfalso
    have hk : v.toBitVec.toNat < c := Nat.le_of_ble_eq_true e
    have hv := ii_all v
    rcases b with b | b
    · rw [hv] at b; exact ii_lt0 (by omega) b
    · rw [hv] at b; exact b ((ii_lt (by omega) hc).mpr hk)
theorem rg_ok {lo hi l : Nat} (h1 : lo ≤ l) (h2 : l ≤ hi) (hh : hi < 2147483648) : rgN lo hi (ii l) = some l := by
  unfold rgN
  rw [ii_nat, Nat.mod_eq_of_lt (by omega), nble.mpr h1, nble.mpr h2]
  rfl
theorem rg_bad {lo hi : Nat} {v : Int32} (hl : lo < 2147483648) (hh : hi < 2147483648) (e : d_X7_isFrom (ii lo) v (ii hi) = 0) : rgN lo hi v = none := by
  unfold rgN
  cases c : (Nat.ble lo v.toBitVec.toNat && Nat.ble v.toBitVec.toNat hi) with
  | false => rfl
  | true =>
    exfalso
    rw [Bool.and_eq_true, nble, nble] at c
    have hv := ii_all v
    rw [hv] at e
    unfold d_X7_isFrom at e
    rw [if_pos ((ii_le hl (by omega)).mpr c.1), if_pos ((ii_le (by omega) hh).mpr c.2)] at e
    exact absurd e (by decide)
theorem rz_ok {t : Int} (h1 : -100 ≤ t) (h2 : t ≤ 100) : rgZ (-100) 100 (zi t) = some t := by
  unfold rgZ
  rw [zi_toInt (by omega) (by omega), decide_eq_true h1, decide_eq_true h2]
  rfl
theorem rz_bad {v : Int32} (e : d_X7_isFrom (-100 : Int32) v (100 : Int32) = 0) : rgZ (-100) 100 v = none := by
  unfold rgZ
  cases c : (decide (-100 ≤ v.toInt) && decide (v.toInt ≤ 100)) with
  | false => rfl
  | true =>
    exfalso
    rw [Bool.and_eq_true, decide_eq_true_eq, decide_eq_true_eq] at c
    unfold d_X7_isFrom at e
    rw [if_pos (Int32.le_iff_toInt_le.mpr (show (-100 : Int32).toInt ≤ v.toInt from c.1)), if_pos (Int32.le_iff_toInt_le.mpr (show v.toInt ≤ (100 : Int32).toInt from c.2))] at e
    exact absurd e (by decide)
section Hou
variable {M : Mem} {s : HS}
theorem onS_bad {v : Int32} {k : Nat → Ans} (h : Rel M s) (b : noI v s.2.1.length) : onS s v k = aX 1 s := by
  have := h.2.2.1.1
  unfold onS
  rw [ix_bad b (by omega)]
  rfl
theorem onS_ok {i : Nat} {k : Nat → Ans} (h : Rel M s) (hi : i < s.2.1.length) : onS s (ii i) k = k (gN s.2.1 i) := by
  have := h.2.2.1.1
  unfold onS
  rw [ix_ok hi (by omega)]
  rfl
theorem onE_bad {v : Int32} {k : Nat → Ans} (h : Rel M s) (b : noI v (s.1.1 * s.1.2)) : onE s v k = aX 1 s := by
  have := h.1.2.2.1
  unfold onE
  rw [ix_bad b (by omega)]
  rfl
theorem onE_ok {i : Nat} {k : Nat → Ans} (h : Rel M s) (hi : i < s.1.1 * s.1.2) : onE s (ii i) k = k i := by
  have := h.1.2.2.1
  unfold onE
  rw [ix_ok hi (by omega)]
  rfl
theorem hSet (h : Rel M s) (v : Int32) : noI v s.2.1.length ∨ ∃ i, i < s.2.1.length ∧ v = ii i := nIx v (by have := h.2.2.1.1; omega)
theorem hEl (h : Rel M s) (v : Int32) : noI v (s.1.1 * s.1.2) ∨ ∃ i, i < s.1.1 * s.1.2 ∧ v = ii i := nIx v (by have := h.1.2.2.1; omega)
theorem SI.congr {N c : Nat} {a b : Nat → Nat} (h : SI M N c a) (e : ∀ i, i < c → a i = b i) : SI M N c b := by
  obtain ⟨h1, h2, h3, h4⟩ := h
  exact ⟨h1, h2, h3, fun i hi => by rw [← e i hi]; exact h4 i hi⟩
theorem RI.congr {N c : Nat} {a b : Nat → Nat} (h : RI M N c a) (e : ∀ i, i < c → a i = b i) : RI M N c b := by
  obtain ⟨h1, h2, h3, h4, h5⟩ := h
  exact ⟨h1, h2, h3, h4, fun i hi => by rw [← e i hi]; exact h5 i hi⟩
theorem gN_app (l : List Nat) (x i : Nat) (hi : i < l.length + 1) : (if i = l.length then x else gN l i) = gN (l ++ [x]) i := by
  unfold gN
  rw [getD_app]
  by_cases c : i < l.length
  · rw [if_pos c, if_neg (by omega)]
  · rw [if_neg c]
    have : i = l.length := by omega
    rw [if_pos this, if_pos this]
theorem go_keep (h : Rel M s) {x : Nat} (hx : x < 2 ^ (s.1.1 * s.1.2)) : Go (d_X7_keepSet (ll x) M) (kpP s x) := by
  have hc := h.2.2.1.1
  unfold kpP
  by_cases h0 : x = 0
  · subst h0
    exact Go.x3 h keepSet_zero
  rw [show Nat.beq x 0 = false from by rw [← Bool.not_eq_true, nb]; exact h0, Bool.false_or]
  by_cases hf : s.2.1.length = 30
  · rw [nble.mpr (by omega : 30 ≤ s.2.1.length), cond_true]
    exact Go.x3 h (keepSet_full h hf _)
  · rw [show Nat.ble 30 s.2.1.length = false from by rw [← Bool.not_eq_true, nble]; omega, cond_false]
    have hc30 : s.2.1.length < 30 := by omega
    refine ⟨_, keepSet_ok h hc30 hx h0, ?_⟩
    have g := kept_inv h hc30 hx h0 (M2 := sI (sL M 1 s.2.1.length (ll x)) 0 2 (ii (s.2.1.length + 1))) (((Fr.rf (kS s.2.1.length) M).l 1 _ _ (by unfold kS; omega)).i 0 2 _ (by unfold kS; omega)) (sL_at M 1 _ _) rfl
    obtain ⟨g1, g2, g3, g4, g5⟩ := g
    refine ⟨g1, g2, ?_, g4, g5⟩
    show SI _ _ (s.2.1 ++ [x]).length (gN (s.2.1 ++ [x]))
    rw [List.length_append, List.length_singleton]
    exact g3.congr fun i hi => gN_app s.2.1 x i hi
theorem kpP_form (s : HS) (x : Nat) : (∃ k, (kpP s x).1 = .inr k) ∨ ∃ v, (kpP s x).1 = .inl (some (.int v)) := by
  unfold kpP
  cases (Nat.beq x 0 || Nat.ble 30 s.2.1.length)
  · exact Or.inr ⟨_, rfl⟩
  · exact Or.inl ⟨_, rfl⟩
theorem Go.on {D : Option (Res × Mem)} {x : Ans} (g : Go D x) (hx : (∃ k, x.1 = .inr k) ∨ ∃ v, x.1 = .inl (some (.int v))) : Go (onI D (fun w M => some (.inl (some (.int w)), M)) (fun r => some r)) x := by
  obtain ⟨M', e, h⟩ := g
  refine ⟨M', ?_, h⟩
  rw [e]
  rcases hx with ⟨k, hk⟩ | ⟨v, hv⟩
  · rw [hk]; rfl
  · rw [hv]; rfl
end Hou
