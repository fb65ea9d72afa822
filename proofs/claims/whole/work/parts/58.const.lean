/-! THE CONSTANT of a group of at most ten elements -/
theorem bI_or (p q : Prop) : bI p ||| bI q = bI (p ∨ q) := by
  by_cases hp : p
  · rw [bI_t hp, bI_t (p := p ∨ q) (Or.inl hp)]
    by_cases hq : q
    · rw [bI_t hq]; decide
    · rw [bI_f hq]; decide
  · by_cases hq : q
    · rw [bI_f hp, bI_t hq, bI_t (p := p ∨ q) (Or.inr hq)]; decide
    · rw [bI_f hp, bI_f hq, bI_f (p := p ∨ q) (fun h => h.elim hp hq)]; decide
/-! by numbers, to be computed -/
def shC (m n s e : Nat) : Nat := ob (fun i => s.testBit (n * ((i / n + (m - e / n)) % m) + (i % n + (n - e % n)) % n)) (m * n)
theorem rr_neg {x b : Nat} (hb : 0 < b) (hx : x ≤ b) : rr (-1 * (x : Int)) b = (b - x) % b := by
  apply Int.ofNat.inj
  show ((rr (-1 * (x : Int)) b : Nat) : Int) = (((b - x) % b : Nat) : Int)
  rw [rr_z _ hb, Int.natCast_emod, Int.natCast_sub hx, show (b : Int) - x = b + -1 * (x : Int) by omega, Int.add_emod_left]
theorem sb_n {m n i e : Nat} (hm : 0 < m) (hn : 0 < n) (he : e < m * n) : sb m n i e = n * ((i / n + (m - e / n)) % m) + (i % n + (n - e % n)) % n := by
  have h1 := el_div he
  have h2 := Nat.mod_lt e hn
  unfold sb ad ng
  rw [ml_div hn, ml_mod hn, rr_neg hm (by omega), rr_neg hn (by omega), Nat.add_mod_mod, Nat.add_mod_mod]
theorem shC_eq {m n s e : Nat} (hm : 0 < m) (hn : 0 < n) (he : e < m * n) : shf m n s e = shC m n s e := by
  refine (st_eq (ob_lt _ _) fun i hi => ?_).symm
  rw [ob_bit, decide_eq_true hi, Bool.true_and, sb_n hm hn he]
def nxC (m n s e : Nat) : Nat := s ||| 2 ^ e ||| shC m n s e
def addC (t : Nat) (l : List Nat) : List Nat := bif l.elem t then l else t :: l
def eC (m n s : Nat) (acc : List Nat) : Nat → List Nat
  | 0 => acc
  | e + 1 => bif Nat.beq e 0 || Nat.beq (nxC m n s e % 2) 1 then eC m n s acc e else addC (nxC m n s e) (eC m n s acc e)
def stepC (m n : Nat) : List Nat → List Nat
  | [] => []
  | s :: l => eC m n s (stepC m n l) (m * n)
def runC (m n : Nat) : Nat → List Nat → Option Nat
  | 0, _ => none
  | f + 1, ws => match stepC m n ws with
    | [] => some 1
    | t :: l => (runC m n f (t :: l)).map (· + 1)
def cmC (m n : Nat) : Nat → Nat
  | 0 => 1
  | k + 1 => if m % (k + 2) = 0 ∧ n % (k + 2) = 0 then k + 2 else cmC m n k
def constC (m n : Nat) : Nat := cmC m n (m - 1) + m * n / cmC m n (m - 1) - 1
theorem runC_all' : ∀ m, m < 11 → ∀ n, n < 11 → (0 < m ∧ 0 < n ∧ m * n ≤ 10) → runC m n 11 [0] = some (constC m n) := by decide +kernel
theorem runC_all (m : Nat) (hm : m < 11) (n : Nat) (hn : n < 11) (h1 : 0 < m) (h2 : 0 < n) (h3 : m * n ≤ 10) : runC m n 11 [0] = some (constC m n) := runC_all' m hm n hn ⟨h1, h2, h3⟩
theorem addC_mem {t x : Nat} {l : List Nat} : x ∈ addC t l ↔ x = t ∨ x ∈ l := by
  unfold addC
  cases h : l.elem t with
  | true =>
    show x ∈ l ↔ _
    have : t ∈ l := List.elem_iff.mp h
    exact ⟨Or.inr, fun z => z.elim (fun e => e ▸ this) id⟩
  | false => exact List.mem_cons
theorem eC_mem {m n s x : Nat} {acc : List Nat} : ∀ e, x ∈ eC m n s acc e ↔ x ∈ acc ∨ ∃ e', e' < e ∧ e' ≠ 0 ∧ x = nxC m n s e' ∧ x.testBit 0 = false
  | 0 => ⟨Or.inl, fun h => h.elim id fun ⟨e', h, _⟩ => absurd h (Nat.not_lt_zero _)⟩
  | e + 1 => by
    have ih := eC_mem (m := m) (n := n) (s := s) (x := x) (acc := acc) e
    have hb : ∀ y : Nat, y.testBit 0 = decide (y % 2 = 1) := fun y => Nat.testBit_zero y
    unfold eC
    by_cases c : e = 0 ∨ nxC m n s e % 2 = 1
    · have : (Nat.beq e 0 || Nat.beq (nxC m n s e % 2) 1) = true := by
        rw [Bool.or_eq_true, Nat.beq_eq, Nat.beq_eq]; exact c
      rw [this]
      show x ∈ eC m n s acc e ↔ _
      rw [ih]
      refine or_congr_right ⟨fun ⟨e', h1, h2⟩ => ⟨e', by omega, h2⟩, fun ⟨e', h1, h2, h3, h4⟩ => ⟨e', ?_, h2, h3, h4⟩⟩
      by_cases e0 : e' = e
      · subst e0
        rw [hb, decide_eq_false_iff_not, h3] at h4
        rcases c with c | c
        · exact absurd c h2
        · exact absurd c h4
      · omega
    · have : (Nat.beq e 0 || Nat.beq (nxC m n s e % 2) 1) = false := by
        rw [Bool.or_eq_false_iff, Bool.eq_false_iff, Bool.eq_false_iff, Ne, Ne, Nat.beq_eq, Nat.beq_eq]
        exact ⟨fun z => c (Or.inl z), fun z => c (Or.inr z)⟩
      rw [this]
      show x ∈ addC _ _ ↔ _
      rw [addC_mem, ih]
      constructor
      · rintro (rfl | h | ⟨e', h1, h2⟩)
        · exact Or.inr ⟨e, Nat.lt_succ_self e, fun z => c (Or.inl z), rfl, by rw [hb, decide_eq_false_iff_not]; exact fun z => c (Or.inr z)⟩
        · exact Or.inl h
        · exact Or.inr ⟨e', by omega, h2⟩
      · rintro (h | ⟨e', h1, h2, h3, h4⟩)
        · exact Or.inr (Or.inl h)
        · by_cases e0 : e' = e
          · subst e0; exact Or.inl h3
          · exact Or.inr (Or.inr ⟨e', by omega, h2, h3, h4⟩)
theorem stepC_mem {m n x : Nat} : ∀ {ws : List Nat}, x ∈ stepC m n ws ↔ ∃ s, s ∈ ws ∧ ∃ e, e < m * n ∧ e ≠ 0 ∧ x = nxC m n s e ∧ x.testBit 0 = false
  | [] => ⟨fun h => absurd h List.not_mem_nil, fun ⟨s, h, _⟩ => absurd h List.not_mem_nil⟩
  | s :: l => by
    show x ∈ eC m n s (stepC m n l) (m * n) ↔ _
    rw [eC_mem, stepC_mem]
    constructor
    · rintro (⟨s', h1, h2⟩ | ⟨e, h⟩)
      · exact ⟨s', List.mem_cons_of_mem _ h1, h2⟩
      · exact ⟨s, List.mem_cons_self, e, h⟩
    · rintro ⟨s', h1, h2⟩
      rcases List.mem_cons.mp h1 with rfl | h1
      · exact Or.inr h2
      · exact Or.inl ⟨s', h1, h2⟩
/-! the class's way -/
theorem cmC_pos (m n : Nat) : ∀ k, 1 ≤ cmC m n k ∧ cmC m n k ≤ k + 1
  | 0 => ⟨Nat.le_refl 1, Nat.le_refl 1⟩
  | k + 1 => by
    have ih := cmC_pos m n k
    have e : cmC m n (k + 1) = if m % (k + 2) = 0 ∧ n % (k + 2) = 0 then k + 2 else cmC m n k := rfl
    by_cases c : m % (k + 2) = 0 ∧ n % (k + 2) = 0
    · rw [e, if_pos c]; omega
    · rw [e, if_neg c]; omega
section Con
variable {M : Mem} {m n : Nat}
theorem cconst_i (h : GI M m n) : d_X1_zeroConstant M = some (ii (constC m n)) := by
  have hle := h.le
  obtain ⟨hm, hn, hN, h0, h1, h2, -⟩ := h
  have hp := cmC_pos m n (m - 1)
  have hd := Nat.div_le_self (m * n) (cmC m n (m - 1))
  unfold d_X1_zeroConstant
  have key := it_full (g := g_X1_zeroConstant_1 M) (m - 1) (fun k => (ii (cmC m n k), ii (k + 2))) (b := .inl (ii (cmC m n (m - 1)), ii (m + 1))) (by omega) (fun k hk => by
    have l1 := Nat.mod_lt m (show 0 < k + 2 by omega)
    have l2 := Nat.mod_lt n (show 0 < k + 2 by omega)
    unfold g_X1_zeroConstant_1
    dsimp only
    rw [h0, h1, if_pos ((ii_le (by omega) (by omega)).mpr (by omega)), rest_i (by omega) (by omega) (by omega), rest_i (by omega) (by omega) (by omega), ii_inc]
    show _ = some (Sum.inl (ii (if m % (k + 2) = 0 ∧ n % (k + 2) = 0 then k + 2 else cmC m n k), ii (k + 1 + 2)))
    by_cases c1 : m % (k + 2) = 0
    · rw [if_pos (by rw [c1]; rfl)]
      by_cases c2 : n % (k + 2) = 0
      · rw [if_pos (by rw [c2]; rfl), if_pos ⟨c1, c2⟩]
      · rw [if_neg (ii_ne0 (Nat.pos_of_ne_zero c2) (by omega)), if_neg (fun z => c2 z.2)]
    · rw [if_neg (ii_ne0 (Nat.pos_of_ne_zero c1) (by omega)), if_neg (fun z => c1 z.1)]) (by
    unfold g_X1_zeroConstant_1
    dsimp only
    rw [h0, if_neg (by rw [ii_le (by omega) (by omega)]; omega), show m - 1 + 2 = m + 1 by omega])
  rw [show ((1 : Int32), (2 : Int32)) = (ii (cmC m n 0), ii (0 + 2)) from rfl, key]
  show some ((ii _ + d_X7_share (M.1 2 2) (ii _)) - (1 : Int32)) = _
  rw [h2, share_i (by omega) (by omega) (by omega), ii_add, show (1 : Int32) = ii 1 from rfl, ii_sub (Nat.le_trans hp.1 (Nat.le_add_right _ _))]
  rfl
/-! the reference's way -/
def NowIs (M : Mem) (ws : List Nat) : Prop := ∀ s, s < 1024 → M.1 27 s = bI (s ∈ ws)
theorem k1_i (M : Mem) : ∃ (D : Mem) (y : Int32), iter g_X8_constant_1 20000 ((0 : Int32), M) = some (.inl (y, D)) ∧ NowIs D [0] ∧ Fr (fun k _ => k = 27) M D := by
  refine k_ex (fun b e1 e2 => ?_) (it_loop (g := g_X8_constant_1) 1024 (fun k a => ∃ D : Mem, a = (ii k, D) ∧ (∀ s, s < k → D.1 27 s = bI (s ∈ [0])) ∧ Fr (fun k _ => k = 27) M D)
    (fun b => ∃ (D : Mem) (y : Int32), b = .inl (y, D) ∧ NowIs D [0] ∧ Fr (fun k _ => k = 27) M D) (a := ((0 : Int32), M)) (by decide) ⟨M, rfl, fun s hs => absurd hs (Nat.not_lt_zero s), Fr.rf _ M⟩ ?_ ?_)
  · obtain ⟨D, y, rfl, h⟩ := e2
    exact ⟨D, y, e1, h⟩
  · rintro k a hk ⟨D, rfl, h1, h2⟩
    unfold g_X8_constant_1
    dsimp only
    rw [if_pos (by rw [show (1024 : Int32) = ii 1024 from rfl, ii_lt (by omega) (by decide)]; exact hk), if_pos (ii_inb (n := 1024) hk (by decide)), ii_ix (by omega), ii_inc, bI_ite, bI_one]
    refine Or.inl ⟨_, rfl, _, rfl, fun s hs => ?_, h2.i 27 k _ rfl⟩
    by_cases c : s = k
    · subst c
      rw [sI_at]
      refine bI_congr ?_
      rw [List.mem_singleton, show (0 : Int32) = ii 0 from rfl, ii_eq (by omega) (by decide)]
    · rw [sI_ne _ _ (fun z => c z.2)]
      exact h1 s (by omega)
  · rintro a ⟨D, rfl, h1, h2⟩
    unfold g_X8_constant_1
    dsimp only
    rw [if_neg (by decide)]
    exact ⟨_, rfl, D, _, rfl, h1, h2⟩
theorem k4_i (M : Mem) : ∃ (D : Mem) (y : Int32), iter g_X8_constant_4 20000 ((0 : Int32), M) = some (.inl (y, D)) ∧ (∀ s, s < 1024 → D.1 28 s = 0) ∧ Fr (fun k _ => k = 28) M D := by
  refine k_ex (fun b e1 e2 => ?_) (it_loop (g := g_X8_constant_4) 1024 (fun k a => ∃ D : Mem, a = (ii k, D) ∧ (∀ s, s < k → D.1 28 s = 0) ∧ Fr (fun k _ => k = 28) M D)
    (fun b => ∃ (D : Mem) (y : Int32), b = .inl (y, D) ∧ (∀ s, s < 1024 → D.1 28 s = 0) ∧ Fr (fun k _ => k = 28) M D) (a := ((0 : Int32), M)) (by decide) ⟨M, rfl, fun s hs => absurd hs (Nat.not_lt_zero s), Fr.rf _ M⟩ ?_ ?_)
  · obtain ⟨D, y, rfl, h⟩ := e2
    exact ⟨D, y, e1, h⟩
  · rintro k a hk ⟨D, rfl, h1, h2⟩
    unfold g_X8_constant_4
    dsimp only
    rw [if_pos (by rw [show (1024 : Int32) = ii 1024 from rfl, ii_lt (by omega) (by decide)]; exact hk), if_pos (ii_inb (n := 1024) hk (by decide)), ii_ix (by omega), ii_inc]
    refine Or.inl ⟨_, rfl, _, rfl, fun s hs => ?_, h2.i 28 k _ rfl⟩
    by_cases c : s = k
    · subst c
      rw [sI_at]
    · rw [sI_ne _ _ (fun z => c z.2)]
      exact h1 s (by omega)
  · rintro a ⟨D, rfl, h1, h2⟩
    unfold g_X8_constant_4
    dsimp only
    rw [if_neg (by decide)]
    exact ⟨_, rfl, D, _, rfl, h1, h2⟩
theorem k10_i (M : Mem) (ws : List Nat) (hw : ∀ s, s < 1024 → M.1 28 s = bI (s ∈ ws)) : ∃ (D : Mem) (y : Int32), iter g_X8_constant_10 20000 ((0 : Int32), M) = some (.inl (y, D)) ∧ NowIs D ws ∧ Fr (fun k _ => k = 27) M D := by
  refine k_ex (fun b e1 e2 => ?_) (it_loop (g := g_X8_constant_10) 1024 (fun k a => ∃ D : Mem, a = (ii k, D) ∧ (∀ s, s < k → D.1 27 s = bI (s ∈ ws)) ∧ Fr (fun k _ => k = 27) M D)
    (fun b => ∃ (D : Mem) (y : Int32), b = .inl (y, D) ∧ NowIs D ws ∧ Fr (fun k _ => k = 27) M D) (a := ((0 : Int32), M)) (by decide) ⟨M, rfl, fun s hs => absurd hs (Nat.not_lt_zero s), Fr.rf _ M⟩ ?_ ?_)
  · obtain ⟨D, y, rfl, h⟩ := e2
    exact ⟨D, y, e1, h⟩
  · rintro k a hk ⟨D, rfl, h1, h2⟩
    unfold g_X8_constant_10
    dsimp only
    rw [if_pos (by rw [show (1024 : Int32) = ii 1024 from rfl, ii_lt (by omega) (by decide)]; exact hk), if_pos (ii_inb (n := 1024) hk (by decide)), if_pos (ii_inb (n := 1024) hk (by decide)), ii_ix (by omega), ii_inc, (h2 28 k (by show ¬ (28 = 27); decide)).1, hw k hk, bI_one]
    refine Or.inl ⟨_, rfl, _, rfl, fun s hs => ?_, h2.i 27 k _ rfl⟩
    by_cases c : s = k
    · subst c
      rw [sI_at]
    · rw [sI_ne _ _ (fun z => c z.2)]
      exact h1 s (by omega)
  · rintro a ⟨D, rfl, h1, h2⟩
    unfold g_X8_constant_10
    dsimp only
    rw [if_neg (by decide)]
    exact ⟨_, rfl, D, _, rfl, h1, h2⟩
/-- what comes of the sets below s, and of s with the elements below e -/
def Cm (m n : Nat) (ws : List Nat) (s e x : Nat) : Prop := ∃ s' e', s' ∈ ws ∧ (s' < s ∨ (s' = s ∧ e' < e)) ∧ e' < m * n ∧ e' ≠ 0 ∧ x = nxC m n s' e' ∧ x.testBit 0 = false
def kP (M : Mem) (m n : Nat) (ws : List Nat) (s e : Nat) (mo : Int32) (D : Mem) : Prop := mo = bI (∃ x, Cm m n ws s e x) ∧ (∀ x, x < 1024 → D.1 28 x = bI (Cm m n ws s e x)) ∧ Fr (fun k _ => k = 28) M D
theorem kP.congr {M : Mem} {ws : List Nat} {s e s' e' : Nat} {mo : Int32} {D : Mem} (h : kP M m n ws s e mo D) (hc : ∀ x, Cm m n ws s e x ↔ Cm m n ws s' e' x) : kP M m n ws s' e' mo D :=
  ⟨h.1.trans (bI_congr ⟨fun ⟨x, z⟩ => ⟨x, (hc x).mp z⟩, fun ⟨x, z⟩ => ⟨x, (hc x).mpr z⟩⟩), fun x hx => (h.2.1 x hx).trans (bI_congr (hc x)), h.2.2⟩
theorem k6_i (h : MI M m n) (h10 : m * n ≤ 10) {ws : List Nat} (hnow : NowIs M ws) (hws : ∀ s, s ∈ ws → s < 2 ^ (m * n)) (h0 : ∀ s, s < 1024 → M.1 28 s = 0) : ∃ (D : Mem) (y : Int32), iter g_X8_constant_6 20000 ((0 : Int32), (0 : Int32), M) = some (.inl (bI (∃ x, x ∈ stepC m n ws), y, D)) ∧ (∀ x, x < 1024 → D.1 28 x = bI (x ∈ stepC m n ws)) ∧ Fr (fun k _ => k = 28) M D := by
  have h' := h
  obtain ⟨hm, hn, hN, -⟩ := h'
  have hp : 2 ^ (m * n) ≤ 2 ^ 10 := Nat.pow_le_pow_right (by decide) h10
  have hMN : ∀ {D : Mem}, Fr (fun k _ => k = 28) M D → MI D m n := fun f => h.f fun j _ => (f 19 j (by show ¬ (19 = 28); decide)).1
  have fin : ∀ x, Cm m n ws 1024 1 x ↔ x ∈ stepC m n ws := fun x => by
    rw [stepC_mem]
    constructor
    · rintro ⟨s', e', g1, -, g2⟩
      exact ⟨s', g1, e', g2⟩
    · rintro ⟨s', g1, e', g2⟩
      exact ⟨s', e', g1, Or.inl (by have := hws s' g1; omega), g2⟩
  refine k_ex (fun b e1 e2 => ?_) (it_loop (g := g_X8_constant_6) 1024 (fun s a => ∃ (mo : Int32) (D : Mem), a = (mo, ii s, D) ∧ kP M m n ws s 1 mo D)
    (fun b => ∃ (mo y : Int32) (D : Mem), b = .inl (mo, y, D) ∧ kP M m n ws 1024 1 mo D) (a := ((0 : Int32), (0 : Int32), M)) (by decide) ⟨0, M, rfl, ?_, fun x hx => ?_, Fr.rf _ M⟩ ?_ ?_)
  · obtain ⟨mo, y, D, rfl, k1, k2, k3⟩ := e2
    refine ⟨D, y, ?_, fun x hx => (k2 x hx).trans (bI_congr (fin x)), k3⟩
    rw [e1, k1, bI_congr (p := ∃ x, Cm m n ws 1024 1 x) (q := ∃ x, x ∈ stepC m n ws) ⟨fun ⟨x, z⟩ => ⟨x, (fin x).mp z⟩, fun ⟨x, z⟩ => ⟨x, (fin x).mpr z⟩⟩]
  · rw [bI_f]
    rintro ⟨x, s', e', -, g1, -, g2, -⟩
    omega
  · rw [h0 x hx, bI_f]
    rintro ⟨s', e', -, g1, -, g2, -⟩
    omega
  · rintro s a hs ⟨mo, D, rfl, hk⟩
    have hD := hMN hk.2.2
    have hsz : d_X8_size D = ii (m * n) := msize_i hD
    have hnD : ∀ x, x < 1024 → D.1 27 x = bI (x ∈ ws) := fun x hx => by rw [(hk.2.2 27 x (by show ¬ (27 = 28); decide)).1]; exact hnow x hx
    unfold g_X8_constant_6
    dsimp only
    rw [if_pos (by rw [show (1024 : Int32) = ii 1024 from rfl, ii_lt (by omega) (by decide)]; exact hs), ii_inc]
    by_cases c : s ∈ ws ∧ 1 < m * n
    · have hsN := hws s c.1
      -- the elements one by one
      have inner : ∃ (mo' y' : Int32) (D' : Mem), iter (g_X8_constant_7 (mo, ii s, D)) 20000 (mo, (1 : Int32), D) = some (.inl (mo', y', D')) ∧ kP M m n ws s (m * n) mo' D' := by
        refine k_ex (fun b e1 e2 => ?_) (it_loop (g := g_X8_constant_7 (mo, ii s, D)) (m * n - 1) (fun k a => ∃ (mo' : Int32) (D' : Mem), a = (mo', ii (k + 1), D') ∧ kP M m n ws s (k + 1) mo' D')
          (fun b => ∃ (mo' y' : Int32) (D' : Mem), b = .inl (mo', y', D') ∧ kP M m n ws s (m * n) mo' D') (a := (mo, (1 : Int32), D)) (by omega) ⟨mo, D, rfl, hk⟩ ?_ ?_)
        · obtain ⟨mo', y', D', rfl, g⟩ := e2
          exact ⟨mo', y', D', e1, g⟩
        · rintro k a hk2 ⟨mo', D', rfl, k1, k2, k3⟩
          have hD' := hMN k3
          have hsz' : d_X8_size D' = ii (m * n) := msize_i hD'
          have hn27 : ¬ D'.1 27 s = 0 := by
            rw [(k3 27 s (by show ¬ (27 = 28); decide)).1, hnow s hs, bI_t c.1]
            decide
          generalize he : k + 1 = e at k1 k2
          have heN : e < m * n := by omega
          have hnx : nxC m n s e < 2 ^ (m * n) := by
            unfold nxC
            rw [← shC_eq hm hn heN]
            exact Nat.or_lt_two_pow (or_lt hsN heN) (shf_lt _ _)
          have hval : ((ii s).toInt64 ||| jshl (1 : Int64) (ii e) ||| ll (shf m n s e)).toInt32 = ii (nxC m n s e) := by
            rw [ii_i64 (by omega), mbit_i (by omega), ll_or, ll_or, ll_i32, shC_eq hm hn heN]
            rfl
          have hsum : d_X8_sumOf (ii s).toInt64 (jshl (1 : Int64) (ii e)) D' = some (ll (shf m n s e)) := by
            rw [ii_i64 (by omega), mbit_i (by omega), msumOf_i hD' hsN (Nat.pow_lt_pow_right (by decide) heN), smo_one' hm hn]
          have hhas : (if d_X8_has (ii (nxC m n s e)).toInt64 (0 : Int32) = 0 then (1 : Int32) else 0) = bI ((nxC m n s e).testBit 0 = false) := by
            show (if d_X8_has (ii (nxC m n s e)).toInt64 (ii 0) = (0 : Int32) then (1 : Int32) else 0) = _
            rw [ii_i64 (by omega), mhas_i (by omega) (by decide), bI_ite]
            refine bI_congr ?_
            cases (nxC m n s e).testBit 0 <;> decide
          have hin : inb (ii (nxC m n s e)) 1024 = true := ii_inb (by omega) (by decide)
          have hcm : ∀ x, Cm m n ws s (e + 1) x ↔ Cm m n ws s e x ∨ (x = nxC m n s e ∧ (nxC m n s e).testBit 0 = false) := fun x => by
            constructor
            · rintro ⟨s', e', q1, q2, q3, q4, q5, q6⟩
              by_cases z : s' = s ∧ e' = e
              · obtain ⟨rfl, rfl⟩ := z
                exact Or.inr ⟨q5, by rw [← q5]; exact q6⟩
              · exact Or.inl ⟨s', e', q1, by omega, q3, q4, q5, q6⟩
            · rintro (⟨s', e', q1, q2, q3⟩ | ⟨q1, q2⟩)
              · exact ⟨s', e', q1, by omega, q3⟩
              · exact ⟨s, e, c.1, Or.inr ⟨rfl, Nat.lt_succ_self e⟩, heN, by omega, q1, by rw [q1]; exact q2⟩
          refine Or.inl ⟨(bI (∃ x, Cm m n ws s (e + 1) x), ii (e + 1), sI D' 28 (nxC m n s e) (bI (Cm m n ws s (e + 1) (nxC m n s e)))), ?_, _, _, rfl, rfl, fun x hx => ?_, k3.i 28 _ _ rfl⟩
          · unfold g_X8_constant_7
            dsimp only
            rw [hsz', if_pos ((ii_lt (by omega) (by omega)).mpr heN), if_pos (ii_inb (n := 1024) hs (by decide)), ii_ix (show s < 2147483648 by omega), if_neg hn27, hsum]
            show (if inb (((ii s).toInt64 ||| jshl (1 : Int64) (ii e)) ||| ll (shf m n s e)).toInt32 1024 = true then (if inb (((ii s).toInt64 ||| jshl (1 : Int64) (ii e)) ||| ll (shf m n s e)).toInt32 1024 = true then some (Sum.inl (mo' ||| (if d_X8_has ((((ii s).toInt64 ||| jshl (1 : Int64) (ii e)) ||| ll (shf m n s e)).toInt32).toInt64 (0 : Int32) = 0 then (1 : Int32) else 0), ii e + (1 : Int32), sI D' 28 (ix (((ii s).toInt64 ||| jshl (1 : Int64) (ii e)) ||| ll (shf m n s e)).toInt32) ((D'.1 28 (ix (((ii s).toInt64 ||| jshl (1 : Int64) (ii e)) ||| ll (shf m n s e)).toInt32) ||| (if d_X8_has ((((ii s).toInt64 ||| jshl (1 : Int64) (ii e)) ||| ll (shf m n s e)).toInt32).toInt64 (0 : Int32) = 0 then (1 : Int32) else 0)) &&& 1))) else none) else none) = _
            rw [hval, if_pos hin, if_pos hin, hhas, ii_ix (show nxC m n s e < 2147483648 by omega), k1, k2 _ (show nxC m n s e < 1024 by omega), bI_or, bI_or, bI_one, ii_inc]
            rw [bI_congr (p := (∃ x, Cm m n ws s e x) ∨ (nxC m n s e).testBit 0 = false) (q := ∃ x, Cm m n ws s (e + 1) x) ?_, bI_congr (p := Cm m n ws s e (nxC m n s e) ∨ (nxC m n s e).testBit 0 = false) (q := Cm m n ws s (e + 1) (nxC m n s e)) ?_]
            · rw [hcm]
              exact ⟨fun z => z.elim Or.inl fun y => Or.inr ⟨rfl, y⟩, fun z => z.elim Or.inl fun y => Or.inr y.2⟩
            · constructor
              · rintro (⟨x, z⟩ | z)
                · exact ⟨x, (hcm x).mpr (Or.inl z)⟩
                · exact ⟨_, (hcm _).mpr (Or.inr ⟨rfl, z⟩)⟩
              · rintro ⟨x, z⟩
                rcases (hcm x).mp z with z | z
                · exact Or.inl ⟨x, z⟩
                · exact Or.inr z.2
          · by_cases z : x = nxC m n s e
            · rw [z, sI_at]
            · rw [sI_ne _ _ (fun y => z y.2), k2 x hx]
              refine bI_congr ?_
              rw [hcm]
              exact ⟨Or.inl, fun y => y.elim id fun y => absurd y.1 z⟩
        · rintro a ⟨mo', D', rfl, k1, k2, k3⟩
          have hsz' : d_X8_size D' = ii (m * n) := msize_i (hMN k3)
          have e : m * n - 1 + 1 = m * n := by omega
          rw [e] at k1 k2 ⊢
          unfold g_X8_constant_7
          dsimp only
          rw [hsz', if_neg (by rw [ii_lt (by omega) (by omega)]; omega)]
          exact ⟨_, rfl, mo', _, D', rfl, k1, k2, k3⟩
      obtain ⟨mo', y', D', i1, i2⟩ := inner
      rw [i1]
      refine Or.inl ⟨_, rfl, mo', D', rfl, i2.congr fun x => ?_⟩
      constructor
      · rintro ⟨s', e', q1, q2, q3, q4⟩
        exact ⟨s', e', q1, by omega, q3, q4⟩
      · rintro ⟨s', e', q1, q2, q3, q4, q5⟩
        exact ⟨s', e', q1, by omega, q3, q4, q5⟩
    · -- nothing comes of it
      have inner : ∃ y' : Int32, iter (g_X8_constant_7 (mo, ii s, D)) 20000 (mo, (1 : Int32), D) = some (.inl (mo, y', D)) := by
        refine ⟨1, iter1 ?_⟩
        unfold g_X8_constant_7
        dsimp only
        rw [hsz]
        by_cases c2 : 1 < m * n
        · have c3 : ¬ s ∈ ws := fun z => c ⟨z, c2⟩
          rw [if_pos (by rw [show (1 : Int32) = ii 1 from rfl, ii_lt (by decide) (by omega)]; exact c2), if_pos (ii_inb (n := 1024) hs (by decide)), ii_ix (by omega), hnD s hs, if_pos (bI_f c3)]
        · rw [if_neg (by rw [show (1 : Int32) = ii 1 from rfl, ii_lt (by decide) (by omega)]; exact c2)]
      obtain ⟨y', i1⟩ := inner
      rw [i1]
      refine Or.inl ⟨_, rfl, mo, D, rfl, hk.congr fun x => ?_⟩
      constructor
      · rintro ⟨s', e', q1, q2, q3, q4⟩
        exact ⟨s', e', q1, by omega, q3, q4⟩
      · rintro ⟨s', e', q1, q2, q3, q4, q5⟩
        refine ⟨s', e', q1, ?_, q3, q4, q5⟩
        by_cases z : s' = s
        · subst z
          exact (c ⟨q1, by omega⟩).elim
        · omega
  · rintro a ⟨mo, D, rfl, hk⟩
    unfold g_X8_constant_6
    dsimp only
    rw [if_neg (by decide)]
    exact ⟨_, rfl, mo, _, D, rfl, hk⟩
/-- the whole search -/
theorem k3_i (h10 : m * n ≤ 10) : ∀ (f : Nat) (ws : List Nat) (L len : Nat) (fu : Nat) (M : Mem), f < fu → MI M m n → NowIs M ws → (∀ s, s ∈ ws → s < 2 ^ (m * n)) → runC m n f ws = some L → ∃ (D : Mem) (y : Int32), iter g_X8_constant_3 fu (ii len, (1 : Int32), M) = some (.inl (ii (len + L), y, D)) ∧ Fr (fun k _ => k = 27 ∨ k = 28) M D
  | 0, ws, L, len, fu, M, _, _, _, _, hr => by cases hr
  | f + 1, ws, L, len, 0, M, hf, _, _, _, _ => absurd hf (Nat.not_lt_zero _)
  | f + 1, ws, L, len, fu + 1, M, hf, hM, hnow, hws, hr => by
    obtain ⟨hm, hn, hN, -⟩ := id hM
    obtain ⟨A, yA, a1, a2, a3⟩ := k4_i M
    have hA : MI A m n := hM.f fun j _ => (a3 19 j (by show ¬ (19 = 28); decide)).1
    have hnA : NowIs A ws := fun s hs => by rw [(a3 27 s (by show ¬ (27 = 28); decide)).1]; exact hnow s hs
    obtain ⟨B, yB, b1, b2, b3⟩ := k6_i hA h10 hnA hws a2
    obtain ⟨E, yE, c1, c2, c3⟩ := k10_i B (stepC m n ws) b2
    have fME : Fr (fun k _ => k = 27 ∨ k = 28) M E := fun k j hk => by
      have g1 := a3 k j (fun z => hk (Or.inr z))
      have g2 := b3 k j (fun z => hk (Or.inr z))
      have g3 := c3 k j (fun z => hk (Or.inl z))
      exact ⟨g3.1.trans (g2.1.trans g1.1), g3.2.trans (g2.2.trans g1.2)⟩
    have hE : MI E m n := hM.f fun j _ => (fME 19 j (by show ¬ (19 = 27 ∨ 19 = 28); decide)).1
    have step : g_X8_constant_3 (ii len, (1 : Int32), M) = some (.inl (ii (len + 1), bI (∃ x, x ∈ stepC m n ws), E)) := by
      unfold g_X8_constant_3
      dsimp only
      rw [if_neg (by decide), a1]
      show onIt (iter g_X8_constant_6 20000 ((0 : Int32), (0 : Int32), A)) _ _ = _
      rw [b1]
      show onIt (iter g_X8_constant_10 20000 ((0 : Int32), B)) _ _ = _
      rw [c1]
      show some (Sum.inl (ii len + (1 : Int32), _, _)) = _
      rw [ii_inc]
    unfold iter
    rw [step]
    show ∃ (D : Mem) (y : Int32), iter g_X8_constant_3 fu (ii (len + 1), bI (∃ x, x ∈ stepC m n ws), E) = _ ∧ _
    unfold runC at hr
    cases hst : stepC m n ws with
    | nil =>
      rw [hst] at hr
      cases hr
      have e0 : bI (∃ x : Nat, x ∈ ([] : List Nat)) = 0 := bI_f fun ⟨x, z⟩ => absurd z List.not_mem_nil
      rw [e0]
      match fu, hf with
      | fu + 1, _ =>
        refine ⟨E, 0, ?_, fME⟩
        unfold iter g_X8_constant_3
        dsimp only
        rw [if_pos rfl]
    | cons t l =>
      rw [hst] at hr
      replace hr : (runC m n f (t :: l)).map (· + 1) = some L := hr
      have e1 : bI (∃ x : Nat, x ∈ t :: l) = 1 := bI_t ⟨t, List.mem_cons_self⟩
      rw [e1]
      cases hrr : runC m n f (t :: l) with
      | none => rw [hrr] at hr; cases hr
      | some L' =>
        rw [hrr] at hr
        have eL : L = L' + 1 := (Option.some.inj hr).symm
        subst eL
        have hws' : ∀ s, s ∈ t :: l → s < 2 ^ (m * n) := fun s hs => by
          rw [← hst, stepC_mem] at hs
          obtain ⟨s', q1, e', q2, -, q3, -⟩ := hs
          rw [q3]
          unfold nxC
          rw [← shC_eq hm hn q2]
          exact Nat.or_lt_two_pow (or_lt (hws s' q1) q2) (shf_lt _ _)
        obtain ⟨D, y, d1, d2⟩ := k3_i h10 f (t :: l) L' (len + 1) fu E (by omega) hE (by rw [← hst]; exact c2) hws' hrr
        refine ⟨D, y, ?_, fun k j hk => ⟨(d2 k j hk).1.trans (fME k j hk).1, (d2 k j hk).2.trans (fME k j hk).2⟩⟩
        rw [d1, show len + 1 + L' = len + (L' + 1) by omega]
end Con
section Cas
variable {M : Mem}
theorem cs_constant (h : Inv M) : CsI d_L_constant d_X8_constant M := by
  obtain ⟨m, n, c, a, r, q, p, w, h⟩ := h
  have hle := h.1.le
  have hN := h.1.2.2.1
  have hm := h.1.1
  have hn := h.1.2.1
  have h2 := h.1.2.2.2.2.2.1
  have e10 : ii (m * n) ≤ (10 : Int32) ↔ m * n ≤ 10 := by rw [show (10 : Int32) = ii 10 from rfl, ii_le (by omega) (by decide)]
  by_cases h10 : m * n ≤ 10
  · have hm10 : m < 11 := by have := Nat.le_mul_of_pos_right m hn; omega
    have hn10 : n < 11 := by have := Nat.le_mul_of_pos_left n hm; omega
    have hrun := runC_all m hm10 n hn10 hm hn h10
    have g := h.w ((Wk.rf M).out (ii (constC m n)).toInt64)
    have g0 := g.t 0
    obtain ⟨A, yA, a1, a2, a3⟩ := k1_i (sI (sL M 29 0 (ii (constC m n)).toInt64) 19 15 0)
    have hA : MI A m n := g0.2.1.f fun j _ => (a3 19 j (by show ¬ (19 = 27); decide)).1
    obtain ⟨D, yD, d1, d2⟩ := k3_i h10 11 [0] (constC m n) 0 20000 A (by decide) hA a2 (fun s hs => by rw [List.mem_singleton] at hs; rw [hs]; exact Nat.two_pow_pos _) hrun
    have wA : Wk (sI (sL M 29 0 (ii (constC m n)).toInt64) 19 15 0) A := fun k j hk => a3 k j (fun z => hk (by unfold wk; omega))
    have wD : Wk A D := fun k j hk => d2 k j (fun z => hk (by unfold wk; omega))
    refine ⟨0, ii (constC m n), sL M 29 0 (ii (constC m n)).toInt64, D, ?_, ?_, ?_, fun _ => ?_, m, n, c, a, r, q, p, w, g0.w (wA.tr wD)⟩
    · simp only [d_L_constant, d_X7_constant, h2, if_pos (e10.mpr h10), cconst_i h.1, onV_ok, onV_thr, onI_ok, onI_thr, onL_ok, onL_thr, Option.bind_some, c10, c00, cl0, cl1, cl2, cl3, e1a, e1b, e1c, e2a, e2b, e2c, e3a, e3b, e3c, inb0, ix0, if_true, if_false, reduceIte]
    · simp only [d_X8_constant, msize_i g.2.1, if_pos (e10.mpr h10), onV_ok, onV_thr, onI_ok, onI_thr, onL_ok, onL_thr, Option.bind_some, c10, c00, cl0, cl1, cl2, cl3, e1a, e1b, e1c, e2a, e2b, e2c, e3a, e3b, e3c, inb0, ix0, if_true, if_false, reduceIte]
      rw [a1]
      show onIt (iter g_X8_constant_3 20000 ((0 : Int32), (1 : Int32), A)) _ _ = _
      rw [show (0 : Int32) = ii 0 from rfl, d1, Nat.zero_add]
      rfl
    · rw [(d2 19 15 (by show ¬ (19 = 27 ∨ 19 = 28); decide)).1, (a3 19 15 (by show ¬ (19 = 27); decide)).1]
      rfl
    · rw [(d2 29 0 (by show ¬ (29 = 27 ∨ 29 = 28); decide)).2, (a3 29 0 (by show ¬ (29 = 27); decide)).2]
      exact sL_at M 29 0 _
  · exact CsI.thr h 1 0 (by decide) (by simp only [d_L_constant, d_X7_constant, h2, if_neg (fun z => h10 (e10.mp z)), onV_ok, onV_thr, onI_ok, onI_thr, onL_ok, onL_thr, Option.bind_some, c10, c00, cl0, cl1, cl2, cl3, e1a, e1b, e1c, e2a, e2b, e2c, e3a, e3b, e3c, inb0, ix0, if_true, if_false, reduceIte]) (by simp only [d_X8_constant, msize_i h.2.1, if_neg (fun z => h10 (e10.mp z)), onV_ok, onV_thr, onI_ok, onI_thr, onL_ok, onL_thr, Option.bind_some, c10, c00, cl0, cl1, cl2, cl3, e1a, e1b, e1c, e2a, e2b, e2c, e3a, e3b, e3c, inb0, ix0, if_true, if_false, reduceIte])
end Cas
