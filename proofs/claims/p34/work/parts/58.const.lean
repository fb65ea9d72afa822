/-! THE CONSTANT of a group of at most ten elements -/
theorem bI_or (p q : Prop) : bI p ||| bI q = bI (p ∨ q) := by
  by_cases hp : p
  · rw [bI_t hp, bI_t (p := p ∨ q) (Or.inl hp)]
    by_cases hq : q
    · rw [bI_t hq]; decide
    · rw [bI_f hq]; decide
  · by_cases hq : q
    · rw [bI_f hp, bI_t hq, bI_t (p := p ∨ q) (Or.inr hq)]; decide
    · rw [bI_f hp, bI_f hq, bI_f (p := p ∨ q) (fun h => h.elim hp hq)]; decide
/-! by numbers, to be computed -/
def shC (m n s e : Nat) : Nat := ob (fun i => s.testBit (n * ((i / n + (m - e / n)) % m) + (i % n + (n - e % n)) % n)) (m * n)
theorem rr_neg {x b : Nat} (hb : 0 < b) (hx : x ≤ b) : rr (-1 * (x : Int)) b = (b - x) % b := by
  apply Int.ofNat.inj
  show ((rr (-1 * (x : Int)) b : Nat) : Int) = (((b - x) % b : Nat) : Int)
  rw [rr_z _ hb, Int.natCast_emod, Int.natCast_sub hx, show (b : Int) - x = b + -1 * (x : Int) by omega, Int.add_emod_left]
theorem sb_n {m n i e : Nat} (hm : 0 < m) (hn : 0 < n) (he : e < m * n) : sb m n i e = n * ((i / n + (m - e / n)) % m) + (i % n + (n - e % n)) % n := by
  have h1 := el_div he
  have h2 := Nat.mod_lt e hn
  unfold sb ad ng
  rw [ml_div hn, ml_mod hn, rr_neg hm (by omega), rr_neg hn (by omega), Nat.add_mod_mod, Nat.add_mod_mod]
theorem shC_eq {m n s e : Nat} (hm : 0 < m) (hn : 0 < n) (he : e < m * n) : shf m n s e = shC m n s e := by
  refine (st_eq (ob_lt _ _) fun i hi => ?_).symm
  rw [ob_bit, decide_eq_true hi, Bool.true_and, sb_n hm hn he]
def nxC (m n s e : Nat) : Nat := s ||| 2 ^ e ||| shC m n s e
def addC (t : Nat) (l : List Nat) : List Nat := bif l.elem t then l else t :: l
def eC (m n s : Nat) (acc : List Nat) : Nat → List Nat
  | 0 => acc
  | e + 1 => bif Nat.beq e 0 || Nat.beq (nxC m n s e % 2) 1 then eC m n s acc e else addC (nxC m n s e) (eC m n s acc e)
def stepC (m n : Nat) : List Nat → List Nat
  | [] => []
  | s :: l => eC m n s (stepC m n l) (m * n)
def runC (m n : Nat) : Nat → List Nat → Option Nat
  | 0, _ => none
  | f + 1, ws => match stepC m n ws with
    | [] => some 1
    | t :: l => (runC m n f (t :: l)).map (· + 1)
def cmC (m n : Nat) : Nat → Nat
  | 0 => 1
  | k + 1 => if m % (k + 2) = 0 ∧ n % (k + 2) = 0 then k + 2 else cmC m n k
def constC (m n : Nat) : Nat := cmC m n (m - 1) + m * n / cmC m n (m - 1) - 1
theorem runC_all' : ∀ m, m < 11 → ∀ n, n < 11 → (0 < m ∧ 0 < n ∧ m * n ≤ 10) → runC m n 11 [0] = some (constC m n) := by decide +kernel
theorem runC_all (m : Nat) (hm : m < 11) (n : Nat) (hn : n < 11) (h1 : 0 < m) (h2 : 0 < n) (h3 : m * n ≤ 10) : runC m n 11 [0] = some (constC m n) := runC_all' m hm n hn ⟨h1, h2, h3⟩
theorem addC_mem {t x : Nat} {l : List Nat} : x ∈ addC t l ↔ x = t ∨ x ∈ l := by
  unfold addC
  cases h : l.elem t with
  | true =>
    show x ∈ l ↔ _
    have : t ∈ l := List.elem_iff.mp h
    exact ⟨Or.inr, fun z => z.elim (fun e => e ▸ this) id⟩
  | false => exact List.mem_cons
theorem eC_mem {m n s x : Nat} {acc : List Nat} : ∀ e, x ∈ eC m n s acc e ↔ x ∈ acc ∨ ∃ e', e' < e ∧ e' ≠ 0 ∧ x = nxC m n s e' ∧ x.testBit 0 = false
  | 0 => ⟨Or.inl, fun h => h.elim id fun ⟨e', h, _⟩ => absurd h (Nat.not_lt_zero _)⟩
  | e + 1 => by
    have ih := eC_mem (m := m) (n := n) (s := s) (x := x) (acc := acc) e
    have hb : ∀ y : Nat, y.testBit 0 = decide (y % 2 = 1) := fun y => Nat.testBit_zero y
    unfold eC
    by_cases c : e = 0 ∨ nxC m n s e % 2 = 1
    · have : (Nat.beq e 0 || Nat.beq (nxC m n s e % 2) 1) = true := by
        rw [Bool.or_eq_true, Nat.beq_eq, Nat.beq_eq]; exact c
      rw [this]
      show x ∈ eC m n s acc e ↔ _
      rw [ih]
      refine or_congr_right ⟨fun ⟨e', h1, h2⟩ => ⟨e', by omega, h2⟩, fun ⟨e', h1, h2, h3, h4⟩ => ⟨e', ?_, h2, h3, h4⟩⟩
      by_cases e0 : e' = e
      · subst e0
        rw [hb, decide_eq_false_iff_not, h3] at h4
        rcases c with c | c
        · exact absurd c h2
        · exact absurd c h4
      · omega
    · have : (Nat.beq e 0 || Nat.beq (nxC m n s e % 2) 1) = false := by
        rw [Bool.or_eq_false_iff, Bool.eq_false_iff, Bool.eq_false_iff, Ne, Ne, Nat.beq_eq, Nat.beq_eq]
        exact ⟨fun z => c (Or.inl z), fun z => c (Or.inr z)⟩
      rw [this]
      show x ∈ addC _ _ ↔ _
      rw [addC_mem, ih]
      constructor
      · rintro (rfl | h | ⟨e', h1, h2⟩)
        · exact Or.inr ⟨e, Nat.lt_succ_self e, fun z => c (Or.inl z), rfl, by rw [hb, decide_eq_false_iff_not]; exact fun z => c (Or.inr z)⟩
        · exact Or.inl h
        · exact Or.inr ⟨e', by omega, h2⟩
      · rintro (h | ⟨e', h1, h2, h3, h4⟩)
        · exact Or.inr (Or.inl h)
        · by_cases e0 : e' = e
          · subst e0; exact Or.inl h3
          · exact Or.inr (Or.inr ⟨e', by omega, h2, h3, h4⟩)
theorem stepC_mem {m n x : Nat} : ∀ {ws : List Nat}, x ∈ stepC m n ws ↔ ∃ s, s ∈ ws ∧ ∃ e, e < m * n ∧ e ≠ 0 ∧ x = nxC m n s e ∧ x.testBit 0 = false
  | [] => ⟨fun h => absurd h List.not_mem_nil, fun ⟨s, h, _⟩ => absurd h List.not_mem_nil⟩
  | s :: l => by
    show x ∈ eC m n s (stepC m n l) (m * n) ↔ _
    rw [eC_mem, stepC_mem]
    constructor
    · rintro (⟨s', h1, h2⟩ | ⟨e, h⟩)
      · exact ⟨s', List.mem_cons_of_mem _ h1, h2⟩
      · exact ⟨s, List.mem_cons_self, e, h⟩
    · rintro ⟨s', h1, h2⟩
      rcases List.mem_cons.mp h1 with rfl | h1
      · exact Or.inr h2
      · exact Or.inl ⟨s', h1, h2⟩
/-! the class's way -/
theorem cmC_pos (m n : Nat) : ∀ k, 1 ≤ cmC m n k ∧ cmC m n k ≤ k + 1
  | 0 => ⟨Nat.le_refl 1, Nat.le_refl 1⟩
  | k + 1 => by
    have ih := cmC_pos m n k
    have e : cmC m n (k + 1) = if m % (k + 2) = 0 ∧ n % (k + 2) = 0 then k + 2 else cmC m n k := rfl
    by_cases c : m % (k + 2) = 0 ∧ n % (k + 2) = 0
    · rw [e, if_pos c]; omega
    · rw [e, if_neg c]; omega
section Con
variable {M : Mem} {m n : Nat}
theorem cconst_i (h : GI M m n) : d_X1_zeroConstant M = some (ii (constC m n)) := by
  have hle := h.le
  obtain ⟨hm, hn, hN, h0, h1, h2, -⟩ := h
  have hp := cmC_pos m n (m - 1)
  have hd := Nat.div_le_self (m * n) (cmC m n (m - 1))
  unfold d_X1_zeroConstant
  have key := it_full (g := g_X1_zeroConstant_1 M) (m - 1) (fun k => (ii (cmC m n k), ii (k + 2))) (b := .inl (ii (cmC m n (m - 1)), ii (m + 1))) (by omega) (fun k hk => by
    have l1 := Nat.mod_lt m (show 0 < k + 2 by omega)
    have l2 := Nat.mod_lt n (show 0 < k + 2 by omega)
    unfold g_X1_zeroConstant_1
    dsimp only
    rw [h0, h1, if_pos ((ii_le (by omega) (by omega)).mpr (by omega)), rest_i (by omega) (by omega) (by omega), rest_i (by omega) (by omega) (by omega), ii_inc]
    show _ = some (Sum.inl (ii (if m % (k + 2) = 0 ∧ n % (k + 2) = 0 then k + 2 else cmC m n k), ii (k + 1 + 2)))
    by_cases c1 : m % (k + 2) = 0
    · rw [if_pos (by rw [c1]; rfl)]
      by_cases c2 : n % (k + 2) = 0
      · rw [if_pos (by rw [c2]; rfl), if_pos ⟨c1, c2⟩]
      · rw [if_neg (ii_ne0 (Nat.pos_of_ne_zero c2) (by omega)), if_neg (fun z => c2 z.2)]
    · rw [if_neg (ii_ne0 (Nat.pos_of_ne_zero c1) (by omega)), if_neg (fun z => c1 z.1)]) (by
    unfold g_X1_zeroConstant_1
    dsimp only
    rw [h0, if_neg (by rw [ii_le (by omega) (by omega)]; omega), show m - 1 + 2 = m + 1 by omega])
  rw [show ((1 : Int32), (2 : Int32)) = (ii (cmC m n 0), ii (0 + 2)) from rfl, key]
  show some ((ii _ + d_X7_share (M.1 2 2) (ii _)) - (1 : Int32)) = _
  rw [h2, share_i (by omega) (by omega) (by omega), ii_add, show (1 : Int32) = ii 1 from rfl, ii_sub (Nat.le_trans hp.1 (Nat.le_add_right _ _))]
  rfl
/-! the reference's way -/
def NowIs (M : Mem) (ws : List Nat) : Prop := ∀ s, s < 1024 → M.1 27 s = bI (s ∈ ws)
/-- what comes of the sets below s, and of s with the elements below e -/
def Cm (m n : Nat) (ws : List Nat) (s e x : Nat) : Prop := ∃ s' e', s' ∈ ws ∧ (s' < s ∨ (s' = s ∧ e' < e)) ∧ e' < m * n ∧ e' ≠ 0 ∧ x = nxC m n s' e' ∧ x.testBit 0 = false
def kP (M : Mem) (m n : Nat) (ws : List Nat) (s e : Nat) (mo : Int32) (D : Mem) : Prop := mo = bI (∃ x, Cm m n ws s e x) ∧ (∀ x, x < 1024 → D.1 28 x = bI (Cm m n ws s e x)) ∧ Fr (fun k _ => k = 28) M D
theorem kP.congr {M : Mem} {ws : List Nat} {s e s' e' : Nat} {mo : Int32} {D : Mem} (h : kP M m n ws s e mo D) (hc : ∀ x, Cm m n ws s e x ↔ Cm m n ws s' e' x) : kP M m n ws s' e' mo D :=
  ⟨h.1.trans (bI_congr ⟨fun ⟨x, z⟩ => ⟨x, (hc x).mp z⟩, fun ⟨x, z⟩ => ⟨x, (hc x).mpr z⟩⟩), fun x hx => (h.2.1 x hx).trans (bI_congr (hc x)), h.2.2⟩
end Con
section Cas
variable {M : Mem}
end Cas
