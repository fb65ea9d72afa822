/-! ALL SUMS OF A LINE COMPARED, AND THOSE OF WHAT IS GIVEN -/
section Cmp
variable {M : Mem} {m n r k : Nat} {x : Nat → Nat}
/-- what the class knows while it compares -/
def Kn (M : Mem) (m n r k : Nat) (x : Nat → Nat) : Prop := GI M m n ∧ (r = 2 ∨ r = 3) ∧ k ≤ 6 ∧ M.1 4 7 = ii k ∧ M.1 4 8 = ii r ∧ ∀ i, i < k → M.1 5 i = ii (x i) ∧ x i < m * n
theorem Kn.f {D : Mem} (h : Kn M m n r k x) (f : Fr cS M D) : Kn D m n r k x := by
  obtain ⟨h1, h2, h3, h4, h5, h6⟩ := h
  refine ⟨h1.f fun k j hk => f k j (by unfold cS; omega), h2, h3, ?_, ?_, fun i hi => ?_⟩
  · rw [(f 4 7 (by unfold cS; decide)).1]; exact h4
  · rw [(f 4 8 (by unfold cS; decide)).1]; exact h5
  · rw [(f 5 i (by unfold cS; omega)).1]; exact h6 i hi
theorem Fr.tr {S : Nat → Nat → Prop} {A B C : Mem} (h : Fr S A B) (g : Fr S B C) : Fr S A C := fun k j hk => ⟨(g k j hk).1.trans (h k j hk).1, (g k j hk).2.trans (h k j hk).2⟩
theorem cmp5 (h : Kn M m n r k x) {hi mi : Nat} (hh : hi < k) (hmi : mi ≤ hi) {D0 : Mem} {a3 a4 : Int32 × Int32 × Mem} (e3 : a3.2.1 = ii hi) (e4 : a4 = (ii (nu r hi mi 0), ii mi, D0)) (c0 : CA D0 m n (Sj m n r x) (nu r hi mi 0)) (f0 : Fr cS M D0) :
    ∃ (D : Mem) (y : Int32), iter (g_X2_compareSums_5 a3 a4) 20000 (a4.1, (0 : Int32), a4.2.2) = some (.inl (ii (nu r hi (mi + 1) 0), y, D)) ∧ CA D m n (Sj m n r x) (nu r hi (mi + 1) 0) ∧ Fr cS M D := by
  obtain ⟨hG, hr, hk, -⟩ := id h
  have hm := hG.1
  have hn := hG.2.1
  have hN := hG.2.2.1
  have hl := lst_le r mi
  subst e4
  refine k_ex (fun b e1 e2 => ?_) (it_loop (g := g_X2_compareSums_5 a3 (ii (nu r hi mi 0), ii mi, D0)) (lst r mi + 1) (fun lo a => ∃ D : Mem, a = (ii (nu r hi mi lo), ii lo, D) ∧ CA D m n (Sj m n r x) (nu r hi mi lo) ∧ Fr cS M D)
    (fun b => ∃ (D : Mem) (y : Int32), b = .inl (ii (nu r hi (mi + 1) 0), y, D) ∧ CA D m n (Sj m n r x) (nu r hi (mi + 1) 0) ∧ Fr cS M D) (a := (ii (nu r hi mi 0), (0 : Int32), D0)) (by omega) ⟨D0, rfl, c0, f0⟩ ?_ ?_)
  · obtain ⟨D, y, rfl, g⟩ := e2
    exact ⟨D, y, e1, g⟩
  · rintro lo a hlo ⟨D, rfl, g1, g2⟩
    obtain ⟨kG, -, -, k7, k8, k5⟩ := h.f g2
    have h56 := nu_56 hr (show hi < 6 by omega) hmi (show lo ≤ lst r mi by omega)
    unfold g_X2_compareSums_5
    dsimp only
    rw [lastLow_i hr k8, if_pos ((ii_le (by omega) (by omega)).mpr (by omega)), e3, sum5_i kG hr k8 hk k5 (show hi < k by omega) (show mi < k by omega) (show lo < k by omega), ← Sj_nu hr (show hi < 6 by omega) hmi (show lo ≤ lst r mi by omega)]
    obtain ⟨D', hD', q1, q2⟩ := g1.step (Sj_lt hm hn x) h56 hN
    rw [← hD', ii_inc, ii_inc, nu_lo]
    rw [nu_lo] at q1
    exact Or.inl ⟨_, rfl, D', rfl, q1, g2.tr q2⟩
  · rintro a ⟨D, rfl, g1, g2⟩
    obtain ⟨kG, -, -, k7, k8, k5⟩ := h.f g2
    unfold g_X2_compareSums_5
    dsimp only
    rw [lastLow_i hr k8, if_neg (by rw [ii_le (by omega) (by omega)]; omega)]
    rw [nu_mi hr (by omega) hmi] at g1 ⊢
    exact ⟨_, rfl, D, _, rfl, g1, g2⟩
theorem cmp4 (h : Kn M m n r k x) {hi : Nat} (hh : hi < k) {D0 : Mem} {a3 : Int32 × Int32 × Mem} (e3 : a3 = (ii (nu r hi 0 0), ii hi, D0)) (c0 : CA D0 m n (Sj m n r x) (nu r hi 0 0)) (f0 : Fr cS M D0) :
    ∃ (D : Mem) (y : Int32), iter (g_X2_compareSums_4 a3) 20000 (a3.1, (0 : Int32), a3.2.2) = some (.inl (ii (nu r (hi + 1) 0 0), y, D)) ∧ CA D m n (Sj m n r x) (nu r (hi + 1) 0 0) ∧ Fr cS M D := by
  obtain ⟨hG, hr, hk, -⟩ := id h
  subst e3
  refine k_ex (fun b e1 e2 => ?_) (it_loop (g := g_X2_compareSums_4 (ii (nu r hi 0 0), ii hi, D0)) (hi + 1) (fun mi a => ∃ D : Mem, a = (ii (nu r hi mi 0), ii mi, D) ∧ CA D m n (Sj m n r x) (nu r hi mi 0) ∧ Fr cS M D)
    (fun b => ∃ (D : Mem) (y : Int32), b = .inl (ii (nu r (hi + 1) 0 0), y, D) ∧ CA D m n (Sj m n r x) (nu r (hi + 1) 0 0) ∧ Fr cS M D) (a := (ii (nu r hi 0 0), (0 : Int32), D0)) (by omega) ⟨D0, rfl, c0, f0⟩ ?_ ?_)
  · obtain ⟨D, y, rfl, g⟩ := e2
    exact ⟨D, y, e1, g⟩
  · rintro mi a hmi ⟨D, rfl, g1, g2⟩
    obtain ⟨D', y, q0, q1, q2⟩ := cmp5 h hh (show mi ≤ hi by omega) (a3 := (ii (nu r hi 0 0), ii hi, D0)) rfl rfl g1 g2
    unfold g_X2_compareSums_4
    dsimp only at q0 ⊢
    rw [if_pos ((ii_le (by omega) (by omega)).mpr (by omega)), q0]
    exact Or.inl ⟨_, rfl, D', by rw [← ii_inc], q1, q2⟩
  · rintro a ⟨D, rfl, g1, g2⟩
    unfold g_X2_compareSums_4
    dsimp only
    rw [if_neg (by rw [ii_le (by omega) (by omega)]; omega)]
    rw [nu_hi hr (by omega)] at g1 ⊢
    exact ⟨_, rfl, D, _, rfl, g1, g2⟩
theorem compare_i (h : Kn M m n r k x) : ∃ D : Mem, d_X2_compareSums M = some (.inl none, D) ∧ CA D m n (Sj m n r x) (nu r k 0 0) ∧ Fr cS M D := by
  obtain ⟨hG, hr, hk, -⟩ := id h
  obtain ⟨B, yB, b1, b2, b3⟩ := c1_i M hG (Sj m n r x)
  have z : nu r 0 0 0 = 0 := by rcases hr with rfl | rfl <;> rfl
  have key : ∃ (D : Mem) (v y : Int32), iter g_X2_compareSums_3 20000 ((0 : Int32), (0 : Int32), B) = some (.inl (v, y, D)) ∧ CA D m n (Sj m n r x) (nu r k 0 0) ∧ Fr cS M D := by
    refine k_ex (fun b e1 e2 => ?_) (it_loop (g := g_X2_compareSums_3) k (fun hi a => ∃ D : Mem, a = (ii (nu r hi 0 0), ii hi, D) ∧ CA D m n (Sj m n r x) (nu r hi 0 0) ∧ Fr cS M D)
      (fun b => ∃ (D : Mem) (v y : Int32), b = .inl (v, y, D) ∧ CA D m n (Sj m n r x) (nu r k 0 0) ∧ Fr cS M D) (a := ((0 : Int32), (0 : Int32), B)) (by omega) ⟨B, by rw [z]; rfl, by rw [z]; exact b2, b3⟩ ?_ ?_)
    · obtain ⟨D, v, y, rfl, g⟩ := e2
      exact ⟨D, v, y, e1, g⟩
    · rintro hi a hh ⟨D, rfl, g1, g2⟩
      obtain ⟨kG, -, -, k7, k8, k5⟩ := h.f g2
      obtain ⟨D', y, q0, q1, q2⟩ := cmp4 h hh (a3 := (ii (nu r hi 0 0), ii hi, D)) rfl g1 g2
      unfold g_X2_compareSums_3
      dsimp only at q0 ⊢
      rw [k7, if_pos ((ii_lt (by omega) (by omega)).mpr hh), q0]
      exact Or.inl ⟨_, rfl, D', by rw [← ii_inc], q1, q2⟩
    · rintro a ⟨D, rfl, g1, g2⟩
      obtain ⟨kG, -, -, k7, k8, k5⟩ := h.f g2
      unfold g_X2_compareSums_3
      dsimp only
      rw [k7, if_neg (by rw [ii_lt (by omega) (by omega)]; omega)]
      exact ⟨_, rfl, D, _, _, rfl, g1, g2⟩
  obtain ⟨D, v, y, d1, d2, d3⟩ := key
  refine ⟨D, ?_, d2, d3⟩
  unfold d_X2_compareSums
  rw [b1]
  show onIt (iter g_X2_compareSums_3 20000 ((0 : Int32), (0 : Int32), B)) _ _ = _
  rw [d1]
  rfl
end Cmp
section Giv
variable {M : Mem} {m n r p A : Nat} {F g : Nat → Nat}
def SGs (D : Mem) (m n : Nat) (G : Nat → Nat) (N A : Nat) : Prop := (∀ j, j < N → D.1 10 j = ii (G j)) ∧ A < 2 ^ (m * n) ∧ ∀ v, v < m * n → (A.testBit v = true ↔ ∃ j, j < N ∧ G j = v)
theorem SGs.step {D : Mem} {G : Nat → Nat} {N A : Nat} (h : SGs D m n G N A) (hG : ∀ j, G j < m * n) : SGs (sI D 10 N (ii (G N))) m n G (N + 1) (A ||| 2 ^ G N) := by
  obtain ⟨h1, h2, h3⟩ := h
  refine ⟨fun j hj => ?_, or_lt h2 (hG N), fun v hv => ?_⟩
  · by_cases c : j = N
    · rw [c, sI_at]
    · rw [sI_ne _ _ (fun z => c z.2)]
      exact h1 j (by omega)
  · rw [Nat.testBit_or, Bool.or_eq_true, Nat.testBit_two_pow, decide_eq_true_eq, h3 v hv]
    constructor
    · rintro (⟨j, g1, g2⟩ | g1)
      · exact ⟨j, by omega, g2⟩
      · exact ⟨N, by omega, g1⟩
    · rintro ⟨j, g1, g2⟩
      by_cases c : j = N
      · exact Or.inr (by rw [← c]; exact g2)
      · exact Or.inl ⟨j, by omega, g2⟩
def wS (r p k j : Nat) : Prop := k = 10 ∧ nu r p 0 0 ≤ j
/-- what the class knows when it adds what is given -/
def Gv (M : Mem) (m n r p : Nat) (F g : Nat → Nat) : Prop := GI M m n ∧ (r = 2 ∨ r = 3) ∧ p < 6 ∧ M.1 4 8 = ii r ∧ (∀ i, i < p + 1 → M.1 7 i = ii (g i) ∧ g i < m * n) ∧ ∀ j, j < nu r (p + 1) 0 0 → ∃ f, Fs F j f ∧ M.1 9 j = ii f
theorem Gv.f {D : Mem} (h : Gv M m n r p F g) (f : Fr (wS r p) M D) : Gv D m n r p F g := by
  obtain ⟨h1, h2, h3, h4, h5, h6⟩ := h
  refine ⟨h1.f fun k j hk => f k j (by unfold wS; omega), h2, h3, ?_, fun i hi => ?_, fun j hj => ?_⟩
  · rw [(f 4 8 (by unfold wS; omega)).1]; exact h4
  · rw [(f 7 i (by unfold wS; omega)).1]; exact h5 i hi
  · rw [(f 9 j (by unfold wS; omega)).1]; exact h6 j hj
def Sw (M D : Mem) (m n r p : Nat) (F g : Nat → Nat) (N A : Nat) : Prop := Con N F (Sj m n r g) ∧ SGs D m n (Sj m n r g) N A ∧ Fr (wS r p) M D
def SwX (M : Mem) (m n r p : Nat) (F g : Nat → Nat) (z : Res × Mem) : Prop := ∃ D, z = (.inl (some (.long (-1 : Int64))), D) ∧ ¬ Con (nu r (p + 1) 0 0) F (Sj m n r g) ∧ Fr (wS r p) M D
theorem sw2 (h : Gv M m n r p F g) {mi : Nat} (hmi : mi ≤ p) {D0 : Mem} {A0 : Nat} {a1 : Int64 × Int32 × Int32 × Mem} (e1 : a1 = (ll A0, ii (nu r p mi 0), ii mi, D0)) (h0 : Sw M D0 m n r p F g (nu r p mi 0) A0) :
    (∃ (A : Nat) (D : Mem) (y : Int32), iter (g_X2_sumsWith_2 (ii p) a1) 20000 (a1.1, a1.2.1, (0 : Int32), a1.2.2.2) = some (.inl (ll A, ii (nu r p (mi + 1) 0), y, D)) ∧ Sw M D m n r p F g (nu r p (mi + 1) 0) A) ∨ (∃ z, iter (g_X2_sumsWith_2 (ii p) a1) 20000 (a1.1, a1.2.1, (0 : Int32), a1.2.2.2) = some (.inr z) ∧ SwX M m n r p F g z) := by
  obtain ⟨hG, hr, hp, -⟩ := id h
  have hm := hG.1
  have hn := hG.2.1
  have hN := hG.2.2.1
  have hl := lst_le r mi
  subst e1
  refine k_ex (fun b e1 e2 => ?_) (it_loop (g := g_X2_sumsWith_2 (ii p) (ll A0, ii (nu r p mi 0), ii mi, D0)) (lst r mi + 1) (fun lo a => ∃ (A : Nat) (D : Mem), a = (ll A, ii (nu r p mi lo), ii lo, D) ∧ Sw M D m n r p F g (nu r p mi lo) A)
    (fun b => (∃ (A : Nat) (D : Mem) (y : Int32), b = .inl (ll A, ii (nu r p (mi + 1) 0), y, D) ∧ Sw M D m n r p F g (nu r p (mi + 1) 0) A) ∨ (∃ z, b = .inr z ∧ SwX M m n r p F g z)) (a := (ll A0, ii (nu r p mi 0), (0 : Int32), D0)) (by omega) ⟨A0, D0, rfl, h0⟩ ?_ ?_)
  · rcases e2 with ⟨A, D, y, rfl, q⟩ | ⟨z, rfl, q⟩
    · exact Or.inl ⟨A, D, y, e1, q⟩
    · exact Or.inr ⟨z, e1, q⟩
  · rintro lo a hlo ⟨A, D, rfl, g1, g2, g3⟩
    obtain ⟨kG, -, -, k8, k7, k9⟩ := h.f g3
    have h56 := nu_56 hr (show p < 6 by omega) hmi (show lo ≤ lst r mi by omega)
    have hin := nu_in hr (show p < 6 by omega) hmi (show lo ≤ lst r mi by omega)
    have hsum : d_X2_sumOf_k7 (ii p) (ii mi) (ii lo) D = ii (Sj m n r g (nu r p mi lo)) := by
      rw [sum7_i kG hr k8 (show p + 1 ≤ 6 by omega) k7 (show p < p + 1 by omega) (show mi < p + 1 by omega) (show lo < p + 1 by omega), ← Sj_nu hr (show p < 6 by omega) hmi (show lo ≤ lst r mi by omega)]
    have hge : nu r p 0 0 ≤ nu r p mi lo := by
      rcases hr with rfl | rfl
      · unfold nu; rw [if_neg (by decide), if_neg (by decide)]; omega
      · unfold nu; rw [if_pos rfl, if_pos rfl]; omega
    have hnx := nu_lo r p mi lo
    generalize hNN : nu r p mi lo = N at *
    obtain ⟨f, hf, ef⟩ := k9 N hin
    have hfN := hf.1
    have hGN := Sj_lt (r := r) hm hn g N
    have hGf := Sj_lt (r := r) hm hn g f
    have hA64 := set64 g2.2.1 hN
    have go : Con (N + 1) F (Sj m n r g) → (∃ (A' : Nat) (D' : Mem), (ll A ||| d_X7_bit (ii (Sj m n r g N)), ii N + (1 : Int32), ii lo + (1 : Int32), d_X7_lay 10 56 (ii N) (ii (Sj m n r g N)) D) = (ll A', ii (nu r p mi (lo + 1)), ii (lo + 1), D') ∧ Sw M D' m n r p F g (nu r p mi (lo + 1)) A') := fun hc => by
      rw [← hnx, show (56 : Int32) = ii 56 from rfl, lay_i 10 h56 (by decide), bit_i (by omega), ll_or, ii_inc, ii_inc]
      exact ⟨_, _, rfl, hc, g2.step (Sj_lt hm hn g), g3.i 10 N _ ⟨rfl, hge⟩⟩
    unfold g_X2_sumsWith_2
    dsimp only
    rw [lastLow_i hr k8, if_pos ((ii_le (by omega) (by omega)).mpr (by omega)), hsum, show d_X7_at 9 56 (ii N) D = ii f from (at_i 9 (b := 56) h56 (by decide) D).trans ef, show d_X7_at 10 56 (ii f) D = D.1 10 f from at_i 10 (b := 56) (by omega) (by decide) D, has_i hA64 (by omega)]
    by_cases c : f = N
    · subst c
      rw [if_pos rfl]
      by_cases d : A.testBit (Sj m n r g f) = true
      · rw [if_pos d, if_neg (by decide)]
        refine Or.inr ⟨_, rfl, Or.inr ⟨_, rfl, D, rfl, fun z => ?_, g3⟩⟩
        exact (g1.new hf).mp (z.le (by omega)) ((g2.2.2 _ hGN).mp d)
      · rw [if_neg d, if_pos rfl]
        exact Or.inl ⟨_, rfl, go ((g1.new hf).mpr fun z => d ((g2.2.2 _ hGN).mpr z))⟩
    · rw [if_neg (by rw [ii_eq (by omega) (by omega)]; exact c), g2.1 f (by omega)]
      by_cases d : Sj m n r g f = Sj m n r g N
      · rw [if_pos (by rw [d])]
        exact Or.inl ⟨_, rfl, go ((g1.old hf c).mpr d)⟩
      · rw [if_neg (by rw [ii_eq (by omega) (by omega)]; exact d)]
        refine Or.inr ⟨_, rfl, Or.inr ⟨_, rfl, D, rfl, fun z => ?_, g3⟩⟩
        exact d ((g1.old hf c).mp (z.le (by omega)))
  · rintro a ⟨A, D, rfl, g⟩
    obtain ⟨kG, -, -, k8, k7, k9⟩ := h.f g.2.2
    unfold g_X2_sumsWith_2
    dsimp only
    rw [lastLow_i hr k8, if_neg (by rw [ii_le (by omega) (by omega)]; omega)]
    rw [nu_mi hr (by omega) hmi] at g ⊢
    exact ⟨_, rfl, Or.inl ⟨A, D, _, rfl, g⟩⟩
theorem sumsWith_i (h : Gv M m n r p F g) (hA : SGs M m n (Sj m n r g) (nu r p 0 0) A) (hc : Con (nu r p 0 0) F (Sj m n r g)) :
    (∃ (A' : Nat) (D : Mem), d_X2_sumsWith (ii p) (ll A) M = some (.inl (some (.long (ll A'))), D) ∧ Con (nu r (p + 1) 0 0) F (Sj m n r g) ∧ SGs D m n (Sj m n r g) (nu r (p + 1) 0 0) A' ∧ Fr (wS r p) M D) ∨ (∃ D, d_X2_sumsWith (ii p) (ll A) M = some (.inl (some (.long (-1 : Int64))), D) ∧ ¬ Con (nu r (p + 1) 0 0) F (Sj m n r g) ∧ Fr (wS r p) M D) := by
  obtain ⟨hG, hr, hp, k8, -⟩ := id h
  unfold d_X2_sumsWith
  rw [ahead_i hr k8 hp]
  refine k_ex (fun b e1 e2 => ?_) (it_loop (g := g_X2_sumsWith_1 (ii p)) (p + 1) (fun mi a => ∃ (A : Nat) (D : Mem), a = (ll A, ii (nu r p mi 0), ii mi, D) ∧ Sw M D m n r p F g (nu r p mi 0) A)
    (fun b => (∃ (A : Nat) (D : Mem) (y z : Int32), b = .inl (ll A, y, z, D) ∧ Sw M D m n r p F g (nu r (p + 1) 0 0) A) ∨ (∃ z, b = .inr z ∧ SwX M m n r p F g z)) (a := (ll A, ii (nu r p 0 0), (0 : Int32), M)) (by omega) ⟨A, M, rfl, hc, hA, Fr.rf _ M⟩ ?_ ?_)
  · rcases e2 with ⟨A', D, y, z, rfl, q1, q2, q3⟩ | ⟨z, rfl, D, rfl, q⟩
    · rw [e1]
      exact Or.inl ⟨A', D, rfl, q1, q2, q3⟩
    · rw [e1]
      exact Or.inr ⟨D, rfl, q⟩
  · rintro mi a hmi ⟨A', D, rfl, q⟩
    unfold g_X2_sumsWith_1
    rcases sw2 h (show mi ≤ p by omega) (a1 := (ll A', ii (nu r p mi 0), ii mi, D)) rfl q with ⟨A2, D2, y, e, q2⟩ | ⟨z, e, q2⟩
    · dsimp only at e ⊢
      rw [if_pos ((ii_le (by omega) (by omega)).mpr (by omega)), e]
      exact Or.inl ⟨_, rfl, A2, D2, by rw [← ii_inc], q2⟩
    · dsimp only at e ⊢
      rw [if_pos ((ii_le (by omega) (by omega)).mpr (by omega)), e]
      exact Or.inr ⟨_, rfl, Or.inr ⟨z, rfl, q2⟩⟩
  · rintro a ⟨A', D, rfl, q⟩
    unfold g_X2_sumsWith_1
    dsimp only
    rw [if_neg (by rw [ii_le (by omega) (by omega)]; omega)]
    rw [nu_hi hr hp] at q
    exact ⟨_, rfl, Or.inl ⟨A', D, _, _, rfl, q⟩⟩
end Giv
