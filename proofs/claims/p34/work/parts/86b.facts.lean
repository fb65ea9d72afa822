/-! .. the law's numbers of sets: slack, excess, orders, covers, greatest ones, parts -/
section Fct
variable {m n : Nat}
theorem smo_bit (a b i : Nat) : (smo m n a b).testBit i = true ↔ i < m * n ∧ ∃ x, b.testBit x = true ∧ a.testBit (sb m n i x) = true := st_bit _ _ _
theorem mir_bit (b i : Nat) : (mir m n b).testBit i = true ↔ i < m * n ∧ b.testBit (ng m n i) = true := st_bit _ _ _
/-- A less B, B less A against A less A, B -/
theorem slack_ge (hm : 0 < m) (hn : 0 < n) (hN : m * n ≤ 36) {a b : Nat} (ha : a < 2 ^ (m * n)) (hb : b < 2 ^ (m * n)) :
    sz (smo m n a (mir m n a)) * sz b ≤ sz (smo m n a (mir m n b)) * sz (smo m n b (mir m n a)) := by
  refine dtri hm hn hN (smo_lt _ _) (smo_lt _ _) (smo_lt _ _) hb fun d hd h => ?_
  obtain ⟨-, x, h1, h2⟩ := (smo_bit _ _ _).mp h
  obtain ⟨hx, h3⟩ := (mir_bit _ _).mp h1
  -- d = u - v with u = d - x, v = - x
  rw [sz_to hb (by omega)]
  refine pc_inj (fun w => sb m n (sb m n d x) w) (fun w hw hp => ⟨sb_lt hm hn _ _, ?_⟩) (fun i j hi hj _ _ e => ?_)
  · rw [Bool.and_eq_true]
    constructor
    · refine (smo_bit _ _ _).mpr ⟨sb_lt hm hn _ _, ng m n w, (mir_bit _ _).mpr ⟨ng_lt hm hn w, by rw [ng_ng hm hn hw]; exact hp⟩, ?_⟩
      rw [show sb m n (sb m n (sb m n d x) w) (ng m n w) = sb m n d x from by
        show ad m n (ad m n (sb m n d x) (ng m n w)) (ng m n (ng m n w)) = _
        rw [ad_assoc hn, ad_comm (ng m n w), ng_ng hm hn hw, ad_ng hm hn, ad_zero hn (sb_lt hm hn d x)]]
      exact h2
    · refine (smo_bit _ _ _).mpr ⟨sb_lt hm hn _ _, x, (mir_bit _ _).mpr ⟨hx, h3⟩, ?_⟩
      rw [show sb m n (sb m n d (sb m n (sb m n d x) w)) x = w from by
        show ad m n (ad m n d (ng m n (ad m n (ad m n d (ng m n x)) (ng m n w)))) (ng m n x) = w
        rw [ng_ad hm hn, ng_ng hm hn hw, ad_assoc hn, ad_comm (ad m n (ng m n (ad m n d (ng m n x))) w), ← ad_assoc hn, ← ad_assoc hn, ad_ng hm hn, ad_zero' hn hw]]
      exact hp
  · have e : ad m n (sb m n d x) (ng m n i) = ad m n (sb m n d x) (ng m n j) := e
    have e := ad_cancel hm hn (ng_lt hm hn i) (ng_lt hm hn j) e
    rw [← ng_ng hm hn hi, e, ng_ng hm hn hj]
/-! sums by Kneser's theorem -/
theorem kg (hm : 0 < m) (hn : 0 < n) : KG (m * n) (ad m n) (ng m n) :=
  ⟨Nat.mul_pos hm hn, ad_lt hm hn, ng_lt hm hn, ad_comm, ad_assoc hn, fun _ h => ad_zero hn h, ad_ng hm hn⟩
theorem cd_sz {x N : Nat} {P : Nat → Prop} (hN : N ≤ 64) (h : x < 2 ^ N) (hp : ∀ i, i < N → (x.testBit i = true ↔ P i)) : sz x = cd N P := by
  rw [sz_to h hN]
  exact pc_congr fun i hi => by
    cases c : x.testBit i with
    | true => exact (cd_dec.mpr ((hp i hi).mp c)).symm
    | false =>
      symm
      rw [← Bool.not_eq_true, cd_dec]
      intro z
      rw [(hp i hi).mpr z] at c
      cases c
theorem smo_ss (hm : 0 < m) (hn : 0 < n) {a b : Nat} (ha : a < 2 ^ (m * n)) (hb : b < 2 ^ (m * n)) {A B : Nat → Prop} (hA : ∀ i, i < m * n → (a.testBit i = true ↔ A i)) (hB : ∀ i, i < m * n → (b.testBit i = true ↔ B i)) (i : Nat) (hi : i < m * n) :
    (smo m n a b).testBit i = true ↔ SS (m * n) (ad m n) A B i := by
  rw [smo_bit]
  constructor
  · rintro ⟨-, x, h1, h2⟩
    have hx := tb_lt hb h1
    exact ⟨sb m n i x, x, sb_lt hm hn i x, hx, (hA _ (sb_lt hm hn i x)).mp h2, (hB x hx).mp h1, ad_sb hm hn hi⟩
  · rintro ⟨x, y, hx, hy, h1, h2, e⟩
    refine ⟨hi, y, (hB y hy).mpr h2, ?_⟩
    rw [← e, sb_ad2 hm hn hx]
    exact (hA x hx).mpr h1
theorem stb_sb (hm : 0 < m) (hn : 0 < n) {c : Nat} (hc : c < 2 ^ (m * n)) {C : Nat → Prop} (hC : ∀ i, i < m * n → (c.testBit i = true ↔ C i)) (k : Nat) (hk : k < m * n) :
    (stb m n c).testBit k = true ↔ SB (m * n) (ad m n) C k := by
  rw [show (stb m n c).testBit k = true ↔ k < m * n ∧ shf m n c k = c from st_bit _ _ _]
  constructor
  · rintro ⟨-, e⟩ x hx
    rw [← hC x hx, ← hC _ (ad_lt hm hn x k)]
    have h := shf_bit (m := m) (n := n) c k (ad m n x k)
    rw [e, sb_ad2 hm hn hx] at h
    exact ⟨fun z => h.mpr ⟨ad_lt hm hn x k, z⟩, fun z => (h.mp z).2⟩
  · intro h
    refine ⟨hk, ?_⟩
    refine tB_ext (shf_lt c k) hc fun i hi => ?_
    have h1 := h (sb m n i k) (sb_lt hm hn i k)
    rw [← hC _ (sb_lt hm hn i k), ← hC _ (ad_lt hm hn _ _), ad_comm (sb m n i k), ad_comm k (sb m n i k), ad_sb hm hn hi] at h1
    have h2 := shf_bit (m := m) (n := n) c k i
    cases c1 : c.testBit i with
    | true => exact h2.mpr ⟨hi, h1.mpr c1⟩
    | false =>
      rw [← Bool.not_eq_true]
      intro z
      rw [h1.mp (h2.mp z).2] at c1
      cases c1
theorem tb_ex {a N : Nat} (h : a < 2 ^ N) (h0 : a ≠ 0) : ∃ x, x < N ∧ a.testBit x = true := by
  refine Classical.byContradiction fun c => h0 (tB_ext h (Nat.two_pow_pos N) fun i hi => ?_)
  rw [Nat.zero_testBit, ← Bool.not_eq_true]
  exact fun z => c ⟨i, hi, z⟩
theorem excess_ge (hm : 0 < m) (hn : 0 < n) (hN : m * n ≤ 36) {a b : Nat} (ha : a < 2 ^ (m * n)) (hb : b < 2 ^ (m * n)) (ha0 : a ≠ 0) (hb0 : b ≠ 0) :
    sz (smo m n a (stb m n (smo m n a b))) + sz (smo m n b (stb m n (smo m n a b))) ≤ sz (smo m n a b) + sz (stb m n (smo m n a b)) := by
  have hS : smo m n a b < 2 ^ (m * n) := smo_lt a b
  have hH : stb m n (smo m n a b) < 2 ^ (m * n) := st_lt _ _
  have iA : ∀ i, i < m * n → (a.testBit i = true ↔ a.testBit i = true) := fun _ _ => Iff.rfl
  have iB : ∀ i, i < m * n → (b.testBit i = true ↔ b.testBit i = true) := fun _ _ => Iff.rfl
  have iS := smo_ss hm hn ha hb iA iB
  have iH := stb_sb hm hn hS iS
  have k := kneser (kg hm hn) (A := fun i => a.testBit i = true) (B := fun i => b.testBit i = true) (tb_ex ha ha0) (tb_ex hb hb0)
  rw [cd_sz (by omega) hS iS, cd_sz (by omega) hH iH, cd_sz (by omega) (smo_lt _ _) (smo_ss hm hn ha hH iA iH), cd_sz (by omega) (smo_lt _ _) (smo_ss hm hn hb hH iB iH)]
  exact k
/-! the answers themselves -/
theorem en_eq (hm : 0 < m) (hn : 0 < n) (hN : m * n ≤ 36) {a b : Nat} (ha : a < 2 ^ (m * n)) (hb : b < 2 ^ (m * n)) : enC m n a b = eaC m n a b := by
  rw [← enC_eq hm hn, ← eaC_eq hm hn]
  exact en_ea hm hn hN ha hb
theorem ex_ok (hm : 0 < m) (hn : 0 < n) (hN : m * n ≤ 36) {a b : Nat} (ha : a < 2 ^ (m * n)) (hb : b < 2 ^ (m * n)) (ha0 : a ≠ 0) (hb0 : b ≠ 0) : ¬ exC m n a b < 0 := by
  have h := excess_ge hm hn hN ha hb ha0 hb0
  have e := exC_eq hm hn a hb
  have s1 := sz_le (smo m n a b)
  have s2 := sz_le (smo m n a (stb m n (smo m n a b)))
  have s3 := sz_le (smo m n b (stb m n (smo m n a b)))
  have s4 := sz_le (stb m n (smo m n a b))
  rw [← e, ← zi_ii, ← zi_ii, ← zi_ii, ← zi_ii, zi_sub, zi_sub, zi_add, zi_lt0 (by omega) (by omega)]
  omega
theorem sl_ok (hm : 0 < m) (hn : 0 < n) (hN : m * n ≤ 36) {a b : Nat} (ha : a < 2 ^ (m * n)) (hb : b < 2 ^ (m * n)) : ¬ slC m n a b a < 0 := by
  have h := slack_ge hm hn hN ha hb
  rw [← slC_eq hm hn, ii_mul, ii_mul, ii_sub h]
  refine ii_lt0 ?_
  have s1 := sz_le (smo m n a (mir m n b))
  have s2 := sz_le (smo m n b (mir m n a))
  have := Nat.mul_le_mul s1 s2
  omega
theorem stb_0 (hm : 0 < m) (hn : 0 < n) {a : Nat} (ha : a < 2 ^ (m * n)) : (stbC m n a).testBit 0 = true := by
  rw [← stbC_eq hm hn]
  refine (stb_sb hm hn ha (fun _ _ => Iff.rfl) 0 (Nat.mul_pos hm hn)).mpr fun x hx => ?_
  rw [ad_zero hn hx]
theorem cv_ok (m n : Nat) (A B : Nat) : ∀ k, Sub (cvC m n A B k).1 A ∧ ((cvC m n A B k).1 = 0 → (cvC m n A B k).2 = 0 ∧ ∀ i, i < k → A.testBit i = false)
  | 0 => ⟨Sub.zero A, fun _ => ⟨rfl, fun i hi => absurd hi (Nat.not_lt_zero i)⟩⟩
  | k + 1 => by
    obtain ⟨h1, h2⟩ := cv_ok m n A B k
    show Sub (cvF m n A B k (cvC m n A B k)).1 A ∧ ((cvF m n A B k (cvC m n A B k)).1 = 0 → (cvF m n A B k (cvC m n A B k)).2 = 0 ∧ _)
    unfold cvF
    cases c : (A.testBit k && Nat.beq (shC m n B k &&& (cvC m n A B k).2) 0) with
    | true =>
      rw [Bool.and_eq_true] at c
      rw [cond_true]
      refine ⟨fun i hi => ?_, fun z => ?_⟩
      · rw [Nat.testBit_or, Bool.or_eq_true] at hi
        rcases hi with hi | hi
        · exact h1 i hi
        · rw [Nat.testBit_two_pow, decide_eq_true_eq] at hi
          rw [← hi]; exact c.1
      · have : ((cvC m n A B k).1 ||| 2 ^ k).testBit k = true := by rw [Nat.testBit_or, Nat.testBit_two_pow, decide_eq_true rfl, Bool.or_true]
        rw [show (cvC m n A B k).1 ||| 2 ^ k = 0 from z, Nat.zero_testBit] at this
        cases this
    | false =>
      rw [cond_false]
      refine ⟨h1, fun z => ?_⟩
      obtain ⟨h3, h4⟩ := h2 z
      refine ⟨h3, fun i hi => ?_⟩
      by_cases e : i = k
      · rw [h3, Nat.and_zero, show Nat.beq 0 0 = true from rfl, Bool.and_true] at c
        rw [e]; exact c
      · exact h4 i (by omega)
theorem cv_0 {A B : Nat} (hA : A < 2 ^ (m * n)) (h0 : A ≠ 0) : (cvC m n A B (m * n)).1 ≠ 0 := fun z => by
  obtain ⟨x, hx, h⟩ := tb_ex hA h0
  rw [((cv_ok m n A B (m * n)).2 z).2 x hx] at h
  cases h
theorem es_sub (m n a : Nat) : Sub (esC m n a) a := by
  unfold esC
  cases decide (odC m n a = -1) with
  | true => exact Sub.zero a
  | false =>
    rw [cond_false]
    intro i hi
    rw [ob_bit, Bool.and_eq_true, Bool.and_eq_true] at hi
    exact hi.2.1
theorem es_none {m n a : Nat} (h : odC m n a = -1) : esC m n a = 0 := by
  unfold esC
  rw [decide_eq_true h]
  rfl
theorem and_not {x y : Nat} (hx : x < 2 ^ 64) (h : Sub x y) : x &&& (y ^^^ (2 ^ 64 - 1)) = 0 := Nat.eq_of_testBit_eq fun i => by
  rw [Nat.zero_testBit, Nat.testBit_and]
  cases c : x.testBit i with
  | false => rfl
  | true => rw [not_bit y i (tb_lt hx c), h i c]; rfl
theorem gs_keep (hm : 0 < m) (hn : 0 < n) (hN : m * n ≤ 36) {r A : Nat} (hr : r < 4) (hA : A < 2 ^ (m * n)) : Sub (gsC m n r A (A + 1)) A ∧ (gsC m n r A (A + 1) = A ↔ kpC m n r A = true) := by
  obtain ⟨h1, h2, h3, h4⟩ := gsC_is hm hn hr hA (A + 1)
  refine ⟨h1, fun e => ?_, fun k => ?_⟩
  · rw [kpC_iff hm hn r hA]
    rw [e] at h2; exact h2
  · have k := (kpC_iff hm hn r hA).mp k
    have hg : gsC m n r A (A + 1) < 2 ^ (m * n) := h1.lt hA
    refine sub_eq (N := m * n) (by omega) hg hA (fun i _ => h1 i) ?_
    rcases h4 A (Sub.self A) (Or.inl (Nat.lt_succ_self A)) k with h | h
    · omega
    · omega
theorem zb_lt (m n : Nat) (q : Nat → Nat) (r : Nat) : zb m n q r (2 ^ r) < 2 ^ r := by
  have h0 := Nat.two_pow_pos r
  obtain ⟨k, hk⟩ : ∃ k, 2 ^ r = k + 1 := ⟨2 ^ r - 1, by omega⟩
  rw [hk]
  have := zb_le (m := m) (n := n) (q := q) (r := r) k
  show (if _ then k else _) < _
  split <;> omega
end Fct
