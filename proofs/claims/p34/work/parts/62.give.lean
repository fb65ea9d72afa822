/-! ALL THAT CAN BE GIVEN, IN ORDER -/
def ext (k : Nat) : Nat → List Nat → List (List Nat)
  | 0, l => [l]
  | d + 1, l => (List.range k).flatMap fun p => if p ∈ l then [] else ext k d (l ++ [p])
def gx (m n t : Nat) (l : List Nat) (i : Nat) : Nat := el t (m * n) (l.getD i 0)
def CoP (m n r t : Nat) (F : Nat → Nat) (l : List Nat) : Prop := Con (nu r l.length 0 0) F (Sj m n r (gx m n t l))
noncomputable def gd (m n r t : Nat) (F : Nat → Nat) (l : List Nat) : Bool := @decide (CoP m n r t F l) (Classical.propDecidable _)
theorem gd_iff {m n r t : Nat} {F : Nat → Nat} {l : List Nat} : gd m n r t F l = true ↔ CoP m n r t F l := @decide_eq_true_iff _ (Classical.propDecidable _)
theorem Con.congr {N : Nat} {F G G' : Nat → Nat} (h : Con N F G) (e : ∀ j, j < N → G j = G' j) : Con N F G' := fun i j hi hj => by
  rw [← e i hi, ← e j hj]
  exact h i j hi hj
theorem ext_pre {k : Nat} : ∀ (d : Nat) {l z : List Nat}, z ∈ ext k d l → ∃ y, z = l ++ y ∧ y.length = d
  | 0, l, z, h => ⟨[], by rw [List.mem_singleton.mp h, List.append_nil], rfl⟩
  | d + 1, l, z, h => by
    obtain ⟨p, h1, h2⟩ := List.mem_flatMap.mp h
    by_cases c : p ∈ l
    · rw [if_pos c] at h2
      exact absurd h2 List.not_mem_nil
    · rw [if_neg c] at h2
      obtain ⟨y, e1, e2⟩ := ext_pre d h2
      exact ⟨p :: y, by rw [e1, List.append_assoc]; rfl, by rw [List.length_cons, e2]⟩
theorem gx_app {m n t : Nat} {l y : List Nat} {i : Nat} (h : i < l.length) : gx m n t (l ++ y) i = gx m n t l i := by
  unfold gx
  rw [List.getD_eq_getElem?_getD, List.getElem?_append_left h, ← List.getD_eq_getElem?_getD]
theorem gx_new {m n t : Nat} (l : List Nat) (p : Nat) : gx m n t (l ++ [p]) l.length = el t (m * n) p := by
  unfold gx
  rw [getD_app, if_neg (Nat.lt_irrefl _), if_pos rfl]
section Search
variable {m n r t k : Nat} {F : Nat → Nat}
theorem prune (hr : r = 2 ∨ r = 3) {d : Nat} {l : List Nat} (h6 : l.length + d ≤ 6) (h : ¬ CoP m n r t F l) : (ext k d l).filter (gd m n r t F) = [] := by
  rw [List.filter_eq_nil_iff]
  intro z hz hg
  obtain ⟨y, e1, e2⟩ := ext_pre d hz
  subst e1
  have hc := gd_iff.mp hg
  unfold CoP at hc
  rw [List.length_append] at hc
  refine h ((hc.le (nu_up hr (by omega) (Nat.le_add_right _ _))).congr fun j hj => ?_)
  exact Sj_congr hr (by omega) (fun i hi => gx_app hi) hj
/-- what stays while it gives -/
def Gs (M : Mem) (m n r t k : Nat) (F : Nat → Nat) : Prop := GI M m n ∧ (r = 2 ∨ r = 3) ∧ 1 ≤ k ∧ k ≤ 6 ∧ pc t.testBit (m * n) = k ∧ M.1 4 7 = ii k ∧ M.1 4 8 = ii r ∧ (∀ i, i < k → M.1 6 i = ii (el t (m * n) i)) ∧ ∀ j, j < nu r k 0 0 → ∃ f, Fs F j f ∧ M.1 9 j = ii f
def gF (r p k j : Nat) : Prop := (k = 4 ∧ j = 9) ∨ (k = 7 ∧ p ≤ j) ∨ k = 8 ∨ (k = 10 ∧ nu r p 0 0 ≤ j)
theorem Gs.f {M D : Mem} {p : Nat} (h : Gs M m n r t k F) (f : Fr (gF r p) M D) : Gs D m n r t k F := by
  obtain ⟨h1, h2, h3, h4, h5, h6, h7, h8, h9⟩ := h
  refine ⟨h1.f fun k j hk => f k j (by unfold gF; omega), h2, h3, h4, h5, ?_, ?_, fun i hi => ?_, fun j hj => ?_⟩
  · rw [(f 4 7 (by unfold gF; omega)).1]; exact h6
  · rw [(f 4 8 (by unfold gF; omega)).1]; exact h7
  · rw [(f 6 i (by unfold gF; omega)).1]; exact h8 i hi
  · rw [(f 9 j (by unfold gF; omega)).1]; exact h9 j hj
theorem Fr.sub {S T : Nat → Nat → Prop} {A B : Mem} (h : Fr S A B) (g : ∀ k j, S k j → T k j) : Fr T A B := fun k j hk => h k j fun z => hk (g k j z)
/-- the maps found -/
def FO (M : Mem) (m n t k : Nat) (A : List (List Nat)) : Prop := M.1 4 9 = ii A.length ∧ (A ≠ [] → ∀ i, i < k → M.1 8 i = ii (gx m n t (A.headD []) i))
def nS (k j : Nat) : Prop := (k = 4 ∧ j = 9) ∨ k = 8
theorem note_i {M : Mem} (h7 : M.1 4 7 = ii k) (hk : k ≤ 6) {A : List (List Nat)} {l : List Nat} (hA : FO M m n t k A) (hl : A.length < 2147483647) (hp : ∀ i, i < k → M.1 7 i = ii (gx m n t l i)) : ∃ D : Mem, d_X2_noteMap M = some (.inl none, D) ∧ FO D m n t k (A ++ [l]) ∧ Fr nS M D := by
  obtain ⟨h1, h2⟩ := hA
  unfold d_X2_noteMap
  rw [h1]
  by_cases c : A = []
  · subst c
    have key : ∃ (D : Mem) (y : Int32), iter g_X2_noteMap_1 20000 ((0 : Int32), M) = some (.inl (y, D)) ∧ (∀ i, i < k → D.1 8 i = ii (gx m n t l i)) ∧ Fr (fun k _ => k = 8) M D := by
      refine k_ex (fun b e1 e2 => ?_) (it_loop (g := g_X2_noteMap_1) k (fun e a => ∃ D : Mem, a = (ii e, D) ∧ (∀ i, i < e → D.1 8 i = ii (gx m n t l i)) ∧ Fr (fun k _ => k = 8) M D)
        (fun b => ∃ (D : Mem) (y : Int32), b = .inl (y, D) ∧ (∀ i, i < k → D.1 8 i = ii (gx m n t l i)) ∧ Fr (fun k _ => k = 8) M D) (a := ((0 : Int32), M)) (by omega) ⟨M, rfl, fun i hi => absurd hi (Nat.not_lt_zero i), Fr.rf _ M⟩ ?_ ?_)
      · obtain ⟨D, y, rfl, g⟩ := e2
        exact ⟨D, y, e1, g⟩
      · rintro e a he ⟨D, rfl, g1, g2⟩
        unfold g_X2_noteMap_1
        dsimp only
        rw [show D.1 4 7 = ii k from (g2 4 7 (by show ¬ (4 = 8); decide)).1.trans h7, if_pos ((ii_lt (by omega) (by omega)).mpr he), show (6 : Int32) = ii 6 from rfl, lay_i 8 (show e < 6 by omega) (by decide), at_i 7 (show e < 6 by omega) (by decide), show D.1 7 e = ii (gx m n t l e) from (g2 7 e (by show ¬ (7 = 8); decide)).1.trans (hp e he), ii_inc]
        refine Or.inl ⟨_, rfl, _, rfl, fun i hi => ?_, g2.i 8 _ _ rfl⟩
        by_cases d : i = e
        · rw [d, sI_at]
        · rw [sI_ne _ _ (fun z => d z.2)]
          exact g1 i (by omega)
      · rintro a ⟨D, rfl, g1, g2⟩
        unfold g_X2_noteMap_1
        dsimp only
        rw [show D.1 4 7 = ii k from (g2 4 7 (by show ¬ (4 = 8); decide)).1.trans h7, if_neg (by rw [ii_lt (by omega) (by omega)]; omega)]
        exact ⟨_, rfl, D, _, rfl, g1, g2⟩
    obtain ⟨D, y, d1, d2, d3⟩ := key
    rw [if_pos (show ii ([] : List (List Nat)).length = (0 : Int32) from rfl), d1]
    refine ⟨_, rfl, ⟨?_, fun _ i hi => ?_⟩, (d3.sub fun k j z => Or.inr z).i 4 9 _ (Or.inl ⟨rfl, rfl⟩)⟩
    · rw [sI_at, (d3 4 9 (by show ¬ (4 = 8); decide)).1, h1]
      rfl
    · rw [sI_ne _ _ (fun z => absurd z.1 (by decide))]
      exact d2 i hi
  · have hlen : 0 < A.length := List.length_pos_iff.mpr c
    rw [if_neg (ii_ne0 hlen (by omega)), ii_inc]
    refine ⟨_, rfl, ⟨?_, fun _ i hi => ?_⟩, (Fr.rf nS M).i 4 9 _ (Or.inl ⟨rfl, rfl⟩)⟩
    · rw [sI_at, List.length_append]; rfl
    · rw [sI_ne _ _ (fun z => absurd z.1 (by decide)), h2 c i hi]
      cases A with
      | nil => exact absurd rfl c
      | cons a b => rfl
def UB (k U : Nat) (l : List Nat) : Prop := U < 2 ^ 6 ∧ ∀ i, i < k → (U.testBit i = true ↔ i ∈ l)
theorem ext_succ (k d : Nat) (l : List Nat) : ext k (d + 1) l = (List.range k).flatMap fun p => if p ∈ l then [] else ext k d (l ++ [p]) := rfl
/-- what is found with the picks below i -/
noncomputable def Ai (m n r t k d : Nat) (F : Nat → Nat) (l : List Nat) (A : List (List Nat)) (i : Nat) : List (List Nat) := A ++ ((List.range i).flatMap fun p => if p ∈ l then [] else ext k d (l ++ [p])).filter (gd m n r t F)
theorem Ai_zero {d : Nat} {l : List Nat} {A : List (List Nat)} : Ai m n r t k d F l A 0 = A := List.append_nil A
theorem Ai_succ {d : Nat} {l : List Nat} {A : List (List Nat)} (i : Nat) : Ai m n r t k d F l A (i + 1) = Ai m n r t k d F l A i ++ (if i ∈ l then [] else ext k d (l ++ [i])).filter (gd m n r t F) := by
  unfold Ai
  rw [List.range_succ, List.flatMap_append, List.filter_append, ← List.append_assoc, List.flatMap_singleton]
theorem lc_m1 {a : Nat} (h : a < 2 ^ 36) : ¬ lg_cmp (ll a) (-1 : Int64) = 0 := by
  rw [ll_m1, lc_0 (by omega) (by decide)]
  omega
theorem lc_mm : lg_cmp (-1 : Int64) (-1 : Int64) = 0 := (lg_cmp_eq _ _).mpr rfl
theorem give_i : ∀ (d : Nat) (l : List Nat) (fu : Nat) (M : Mem) (U S : Nat) (A : List (List Nat)), l.length + d + 1 = k → d < fu → Gs M m n r t k F → (∀ i, i < l.length → M.1 7 i = ii (gx m n t l i)) → (∀ j, j < l.length → l.getD j 0 < k) → UB k U l → SGs M m n (Sj m n r (gx m n t l)) (nu r l.length 0 0) S → CoP m n r t F l → FO M m n t k A → A.length + k ^ (d + 1) ≤ 1000000 →
    ∃ D : Mem, d_X2_give fu (ii l.length) (ll U) (ll S) M = some (.inl none, D) ∧ FO D m n t k (A ++ (ext k (d + 1) l).filter (gd m n r t F)) ∧ (A ++ (ext k (d + 1) l).filter (gd m n r t F)).length ≤ A.length + k ^ (d + 1) ∧ Fr (gF r l.length) M D
  | _, _, 0, _, _, _, _, _, hf, _, _, _, _, _, _, _, _ => absurd hf (Nat.not_lt_zero _)
  | d, l, fu + 1, M, U, S, A, hd, hf, hM, hP, hQ, hU, hS, hC, hA, hB => by
    obtain ⟨hG, hr, hk1, hk6, hpc, h47, h48, h6, h9⟩ := id hM
    have hm := hG.1
    have hn := hG.2.1
    have hN := hG.2.2.1
    have hkd : k ^ (d + 1) = k * k ^ d := by rw [Nat.pow_succ, Nat.mul_comm]
    have hkk : 0 < k ^ d := Nat.pow_pos (by omega)
    have hU64 : U < 18446744073709551616 := by have := hU.1; omega
    -- one pick
    have step : ∀ (i : Nat) (D : Mem), i < k → FO D m n t k (Ai m n r t k d F l A i) → (Ai m n r t k d F l A i).length ≤ A.length + i * k ^ d → Fr (gF r l.length) M D →
        ∃ D' : Mem, g_X2_give_1 (d_X2_give fu) (ii l.length) (ll U) (ll S) (ii i, D) = some (.inl (ii (i + 1), D')) ∧ FO D' m n t k (Ai m n r t k d F l A (i + 1)) ∧ (Ai m n r t k d F l A (i + 1)).length ≤ A.length + (i + 1) * k ^ d ∧ Fr (gF r l.length) M D' := by
      intro i D hi q1 q2 q3
      have hik : (i + 1) * k ^ d ≤ k * k ^ d := Nat.mul_le_mul_right _ hi
      have hi1 : (i + 1) * k ^ d = i * k ^ d + k ^ d := Nat.succ_mul _ _
      have hD := hM.f q3
      obtain ⟨dG, -, -, -, -, d47, d48, d6, d9⟩ := id hD
      have hlay : d_X7_lay 7 6 (ii l.length) (d_X7_at 6 6 (ii i) D) D = sI D 7 l.length (ii (el t (m * n) i)) := by
        rw [show (6 : Int32) = ii 6 from rfl, lay_i 7 (show l.length < 6 by omega) (by decide), at_i 6 (show i < 6 by omega) (by decide), d6 i hi]
      have q4 : Fr (gF r l.length) M (sI D 7 l.length (ii (el t (m * n) i))) := q3.i 7 _ _ (Or.inr (Or.inl ⟨rfl, Nat.le_refl _⟩))
      have q5 : FO (sI D 7 l.length (ii (el t (m * n) i))) m n t k (Ai m n r t k d F l A i) := q1
      unfold g_X2_give_1
      dsimp only
      rw [d47, if_pos ((ii_lt (by omega) (by omega)).mpr hi), hlay, has_i hU64 (by omega)]
      by_cases c : i ∈ l
      · rw [if_pos ((hU.2 i hi).mpr c), if_neg (by decide), if_pos lc_mm, if_pos lc_mm, Ai_succ, if_pos c, ii_inc]
        refine ⟨_, rfl, ?_, ?_, q4⟩
        · rw [List.filter_nil, List.append_nil]; exact q5
        · rw [List.filter_nil, List.append_nil]; omega
      · rw [if_neg (fun z => c ((hU.2 i hi).mp z)), if_pos rfl, Ai_succ, if_neg c]
        generalize hE : sI D 7 l.length (ii (el t (m * n) i)) = E at *
        have e7 : ∀ j, j < l.length + 1 → E.1 7 j = ii (gx m n t (l ++ [i]) j) ∧ gx m n t (l ++ [i]) j < m * n := by
          intro j hj
          by_cases z : j = l.length
          · rw [z, gx_new, ← hE, sI_at]
            exact ⟨rfl, el_lt t (by rw [hpc]; exact hi)⟩
          · have hjl : j < l.length := by omega
            rw [gx_app hjl, ← hE, sI_ne _ _ (fun w => z w.2), (q3 7 j (by unfold gF; omega)).1, hP j hjl]
            refine ⟨rfl, ?_⟩
            unfold gx
            refine el_lt t ?_
            rw [hpc]
            exact hQ j hjl
        have gE : Gs E m n r t k F := hM.f q4
        obtain ⟨eG, -, -, -, -, e47, e48, -, e9⟩ := id gE
        have hl6 : l.length < 6 := by omega
        have hlen : (l ++ [i]).length = l.length + 1 := by rw [List.length_append]; rfl
        have hsame : ∀ j, j < nu r l.length 0 0 → Sj m n r (gx m n t l) j = Sj m n r (gx m n t (l ++ [i])) j := fun j hj => Sj_congr hr (by omega) (fun a ha => (gx_app ha).symm) hj
        have gv : Gv E m n r l.length F (gx m n t (l ++ [i])) := ⟨eG, hr, hl6, e48, e7, fun j hj => e9 j (Nat.lt_of_lt_of_le hj (nu_up hr hk6 (by omega)))⟩
        have sg : SGs E m n (Sj m n r (gx m n t (l ++ [i]))) (nu r l.length 0 0) S := by
          refine ⟨fun j hj => ?_, hS.2.1, fun v hv => ?_⟩
          · rw [(q4 10 j (by unfold gF; omega)).1, hS.1 j hj, hsame j hj]
          · rw [hS.2.2 v hv]
            exact ⟨fun ⟨j, z1, z2⟩ => ⟨j, z1, by rw [← hsame j z1]; exact z2⟩, fun ⟨j, z1, z2⟩ => ⟨j, z1, by rw [hsame j z1]; exact z2⟩⟩
        have hc0 : Con (nu r l.length 0 0) F (Sj m n r (gx m n t (l ++ [i]))) := hC.congr hsame
        have fo : ∀ {D2 : Mem}, Fr (wS r l.length) E D2 → FO D2 m n t k (Ai m n r t k d F l A i) := fun w => by
          refine ⟨?_, fun z a ha => ?_⟩
          · rw [(w 4 9 (by unfold wS; omega)).1]; exact q5.1
          · rw [(w 8 a (by unfold wS; omega)).1]; exact q5.2 z a ha
        have wg : ∀ {D2 : Mem}, Fr (wS r l.length) E D2 → Fr (gF r l.length) M D2 := fun w => q4.tr (w.sub fun a b z => Or.inr (Or.inr (Or.inr z)))
        rcases sumsWith_i gv sg hc0 with ⟨S', D2, w1, w2, w3, w4⟩ | ⟨D2, w1, w2, w4⟩
        · have hS36 : S' < 2 ^ 36 := Nat.lt_of_lt_of_le w3.2.1 (Nat.pow_le_pow_right (by decide) hN)
          have hcp : CoP m n r t F (l ++ [i]) := by
            unfold CoP
            rw [hlen]
            exact w2
          rw [w1, onL_ok, if_neg (lc_m1 hS36)]
          rw [show D2.1 4 7 = ii k from (w4 4 7 (by unfold wS; omega)).1.trans e47, ii_inc]
          rcases Nat.eq_zero_or_pos d with d0 | d0
          · subst d0
            have hlk : l.length + 1 = k := by omega
            rw [if_pos (by rw [hlk])]
            obtain ⟨D3, v1, v2, v3⟩ := note_i (l := l ++ [i]) (show D2.1 4 7 = ii k from (w4 4 7 (by unfold wS; omega)).1.trans e47) hk6 (fo w4) (by omega) (fun a ha => by rw [(w4 7 a (by unfold wS; omega)).1]; exact (e7 a (by omega)).1)
            rw [v1, onV_ok, ii_inc]
            have hfil : (ext k 0 (l ++ [i])).filter (gd m n r t F) = [l ++ [i]] := by
              show [l ++ [i]].filter (gd m n r t F) = _
              rw [List.filter_cons_of_pos (gd_iff.mpr hcp), List.filter_nil]
            rw [hfil]
            refine ⟨D3, rfl, v2, ?_, (wg w4).tr (v3.sub fun a b z => z.elim (fun z => Or.inl z) fun z => Or.inr (Or.inr (Or.inl z)))⟩
            rw [List.length_append]
            show _ + 1 ≤ _
            omega
          · obtain ⟨d, rfl⟩ : ∃ d', d = d' + 1 := ⟨d - 1, by omega⟩
            rw [if_neg (by rw [ii_eq (by omega) (by omega)]; omega), if_neg (lc_m1 hS36), bit_i (by omega), ll_or]
            have hU' : UB k (U ||| 2 ^ i) (l ++ [i]) := by
              refine ⟨or_lt hU.1 (by omega), fun a ha => ?_⟩
              rw [Nat.testBit_or, Bool.or_eq_true, Nat.testBit_two_pow, decide_eq_true_eq, hU.2 a ha, List.mem_append, List.mem_singleton]
              exact or_congr_right ⟨Eq.symm, Eq.symm⟩
            obtain ⟨D3, v1, v2, v3, v4⟩ := give_i d (l ++ [i]) fu D2 (U ||| 2 ^ i) S' (Ai m n r t k (d + 1) F l A i) (by omega) (by omega) (hM.f (wg w4)) (fun a ha => by rw [(w4 7 a (by unfold wS; omega)).1]; exact (e7 a (by omega)).1) (fun a ha => by
              rw [getD_app]
              by_cases z : a < l.length
              · rw [if_pos z]; exact hQ a z
              · rw [if_neg z, if_pos (by omega)]; exact hi) hU' (by rw [hlen]; exact w3) hcp (fo w4) (by omega)
            rw [hlen] at v1
            rw [v1, onV_ok, ii_inc]
            refine ⟨D3, rfl, v2, by omega, (wg w4).tr (v4.sub fun a b z => ?_)⟩
            have hnu := nu_up hr (show l.length + 1 ≤ 6 by omega) (Nat.le_succ l.length)
            unfold gF at z ⊢
            rw [hlen] at z
            omega
        · rw [w1, onL_ok, if_pos lc_mm, if_pos lc_mm, ii_inc, prune hr (by omega) (by unfold CoP; rw [hlen]; exact w2), List.append_nil]
          exact ⟨D2, rfl, fo w4, by omega, wg w4⟩
    refine k_ex (fun b e1 e2 => ?_) (it_loop (g := g_X2_give_1 (d_X2_give fu) (ii l.length) (ll U) (ll S)) k (fun i a => ∃ D : Mem, a = (ii i, D) ∧ FO D m n t k (Ai m n r t k d F l A i) ∧ (Ai m n r t k d F l A i).length ≤ A.length + i * k ^ d ∧ Fr (gF r l.length) M D)
      (fun b => ∃ (D : Mem) (y : Int32), b = .inl (y, D) ∧ FO D m n t k (Ai m n r t k d F l A k) ∧ (Ai m n r t k d F l A k).length ≤ A.length + k * k ^ d ∧ Fr (gF r l.length) M D) (a := ((0 : Int32), M)) (by omega) ⟨M, rfl, by rw [Ai_zero]; exact hA, by rw [Ai_zero]; omega, Fr.rf _ M⟩ ?_ ?_)
    · obtain ⟨D, y, rfl, g1, g2, g3⟩ := e2
      refine ⟨D, ?_, g1, by rw [hkd]; exact g2, g3⟩
      show (if ii l.length < M.1 4 7 then (if ii l.length < (6 : Int32) then (onIt (iter (g_X2_give_1 (d_X2_give fu) (ii l.length) (ll U) (ll S)) 20000 ((0 : Int32), M)) (fun (a2 : Int32 × Mem) => some (.inl none, a2.2)) (fun r => some r)) else some (.inl none, M)) else some (.inl none, M)) = _
      rw [h47, if_pos ((ii_lt (by omega) (by omega)).mpr (by omega)), show (6 : Int32) = ii 6 from rfl, if_pos ((ii_lt (by omega) (by decide)).mpr (by omega)), e1]
      rfl
    · rintro i a hi ⟨D, rfl, g1, g2, g3⟩
      obtain ⟨D', w1, w2, w3, w4⟩ := step i D hi g1 g2 g3
      exact Or.inl ⟨_, w1, D', rfl, w2, w3, w4⟩
    · rintro a ⟨D, rfl, g1, g2, g3⟩
      unfold g_X2_give_1
      dsimp only
      rw [show D.1 4 7 = ii k from (g3 4 7 (by unfold gF; omega)).1.trans h47, if_neg (by rw [ii_lt (by omega) (by omega)]; omega)]
      exact ⟨_, rfl, D, _, rfl, g1, g2, g3⟩
end Search
