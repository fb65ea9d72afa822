/-! THE MAPS FOUND BY THE CLASS -/
theorem Fr.wk {S : Nat → Nat → Prop} {A B : Mem} (h : Fr S A B) (g : ∀ k j, S k j → wk k j) : Wk A B := fun k j hk => h k j fun z => hk (g k j z)
section Found
variable {M : Mem} {m n r k s t : Nat}
noncomputable def allM (m n r k s t : Nat) : List (List Nat) := (ext k k []).filter (gd m n r t (Sj m n r (el s (m * n))))
theorem findAll_i (h : GI M m n) (hs : s < 2 ^ (m * n)) (ht : t < 2 ^ (m * n)) (hr : r = 2 ∨ r = 3) (hk1 : 1 ≤ k) (hk : k ≤ 6) (ps : pc s.testBit (m * n) = k) (pt : pc t.testBit (m * n) = k) :
    ∃ D : Mem, d_X2_findAll (ll s) (ll t) (ii r) M = some (.inl none, D) ∧ D.1 4 7 = ii k ∧ FO D m n t k (allM m n r k s t) ∧ (allM m n r k s t).length < 2147483647 ∧ (∀ i, i < k → D.1 5 i = ii (el s (m * n) i)) ∧ Wk M D := by
  obtain ⟨hm, hn, hN, -⟩ := id h
  obtain ⟨B, yB, b1, b2, b3⟩ := line_i 5 (by decide) h hs (by omega)
  rw [ps] at b1 b2
  generalize hC : sI (sI (sI B 4 7 (ii k)) 4 8 (ii r)) 4 9 (0 : Int32) = C
  have cf : Fr (fun k _ => k = 4) B C := by
    rw [← hC]
    exact (((Fr.rf _ B).i 4 7 _ rfl).i 4 8 _ rfl).i 4 9 _ rfl
  have c7 : C.1 4 7 = ii k := by rw [← hC]; rfl
  have c8 : C.1 4 8 = ii r := by rw [← hC]; rfl
  have c9 : C.1 4 9 = ii 0 := by rw [← hC]; rfl
  have gC : GI C m n := (h.f fun a j hk => b3 a j (by show ¬ (a = 5); omega)).f fun a j hk => cf a j (by show ¬ (a = 4); omega)
  obtain ⟨E, yE, e1, e2, e3⟩ := line_i 6 (by decide) gC ht (by omega)
  rw [pt] at e1 e2
  have gE : GI E m n := gC.f fun a j hk => e3 a j (by show ¬ (a = 6); omega)
  have e7 : E.1 4 7 = ii k := (e3 4 7 (by show ¬ (4 = 6); decide)).1.trans c7
  have e8 : E.1 4 8 = ii r := (e3 4 8 (by show ¬ (4 = 6); decide)).1.trans c8
  have e9 : E.1 4 9 = ii 0 := (e3 4 9 (by show ¬ (4 = 6); decide)).1.trans c9
  have e5 : ∀ i, i < k → E.1 5 i = ii (el s (m * n) i) := fun i hi => (e3 5 i (by show ¬ (5 = 6); decide)).1.trans ((cf 5 i (by show ¬ (5 = 4); decide)).1.trans (b2 i hi))
  have kn : Kn E m n r k (el s (m * n)) := ⟨gE, hr, hk, e7, e8, fun i hi => ⟨e5 i hi, el_lt s (by omega)⟩⟩
  obtain ⟨G, g1, g2, g3⟩ := compare_i kn
  have gs : Gs G m n r t k (Sj m n r (el s (m * n))) := by
    refine ⟨gE.f fun a j hk => g3 a j (by unfold cS; omega), hr, hk1, hk, pt, ?_, ?_, fun i hi => ?_, g2.1⟩
    · rw [(g3 4 7 (by unfold cS; decide)).1]; exact e7
    · rw [(g3 4 8 (by unfold cS; decide)).1]; exact e8
    · rw [(g3 6 i (by unfold cS; omega)).1]; exact e2 i hi
  have z : nu r 0 0 0 = 0 := by rcases hr with rfl | rfl <;> rfl
  have pw : k ^ k ≤ 46656 := by
    have : ∀ k, k < 7 → k ^ k ≤ 46656 := by decide +kernel
    exact this k (by omega)
  obtain ⟨d, rfl⟩ : ∃ d, k = d + 1 := ⟨k - 1, by omega⟩
  obtain ⟨D, d1, d2, d3, d4⟩ := give_i (F := Sj m n r (el s (m * n))) d [] 8 G 0 0 [] (by show 0 + d + 1 = d + 1; omega) (by omega) gs (fun i hi => absurd hi (Nat.not_lt_zero i)) (fun i hi => absurd hi (Nat.not_lt_zero i)) ⟨by decide, fun i _ => by rw [Nat.zero_testBit]; exact ⟨fun z => (by cases z), fun z => absurd z List.not_mem_nil⟩⟩ (by
    show SGs G m n _ (nu r 0 0 0) 0
    rw [z]
    exact ⟨fun j hj => absurd hj (Nat.not_lt_zero j), Nat.two_pow_pos _, fun v _ => by rw [Nat.zero_testBit]; exact ⟨fun z => (by cases z), fun ⟨j, hj, _⟩ => absurd hj (Nat.not_lt_zero j)⟩⟩) (by
    show Con (nu r 0 0 0) _ _
    rw [z]
    exact fun i j hi => absurd hi (Nat.not_lt_zero i)) ⟨by rw [(g3 4 9 (by unfold cS; decide)).1]; exact e9, fun z => absurd rfl z⟩ (by show 0 + _ ≤ _; omega)
  have fD : Fr (gF r 0) G D := d4
  rw [List.nil_append] at d2 d3
  refine ⟨D, ?_, ?_, d2, ?_, fun i hi => ?_, ?_⟩
  · unfold d_X2_findAll d_X2_lineUp_k5
    rw [gLine_5, b1]
    show onI (d_X2_lineUp_k6 (ll t) (sI (sI (sI B 4 7 (ii (d + 1))) 4 8 (ii r)) 4 9 (0 : Int32))) _ _ = _
    rw [hC]
    unfold d_X2_lineUp_k6
    rw [gLine_6, e1]
    show (if ii (d + 1) = E.1 4 7 then _ else _) = _
    rw [e7, if_pos rfl, g1, onV_ok]
    show onV (d_X2_give 8 (ii 0) (ll 0) (ll 0) G) _ _ = _
    rw [show d_X2_give 8 (ii 0) (ll 0) (ll 0) G = _ from d1, onV_ok]
  · rw [(fD 4 7 (by unfold gF; omega)).1, (g3 4 7 (by unfold cS; decide)).1]; exact e7
  · show (List.filter _ (ext (d + 1) (d + 1) [])).length < _
    have : ([] : List (List Nat)).length = 0 := rfl
    omega
  · rw [(fD 5 i (by unfold gF; omega)).1, (g3 5 i (by unfold cS; omega)).1]; exact e5 i hi
  · exact ((((b3.wk (by intro a b c; unfold wk; omega)).tr (cf.wk (by intro a b c; unfold wk; omega))).tr (e3.wk (by intro a b c; unfold wk; omega))).tr (g3.wk (by intro a b c; unfold wk; unfold cS at c; omega))).tr (fD.wk (by intro a b c; unfold wk; unfold gF at c; omega))
/-- sets of other sizes -/
theorem findNone_i (h : GI M m n) (hs : s < 2 ^ (m * n)) (ht : t < 2 ^ (m * n)) (hk : pc s.testBit (m * n) ≤ 6) (hk2 : pc t.testBit (m * n) ≤ 6) (hne : pc s.testBit (m * n) ≠ pc t.testBit (m * n)) (v6 : Int32) :
    ∃ D : Mem, d_X2_findAll (ll s) (ll t) v6 M = some (.inl none, D) ∧ D.1 4 7 = ii (pc s.testBit (m * n)) ∧ D.1 4 9 = 0 ∧ Wk M D := by
  obtain ⟨hm, hn, hN, -⟩ := id h
  obtain ⟨B, yB, b1, b2, b3⟩ := line_i 5 (by decide) h hs (by omega)
  generalize hC : sI (sI (sI B 4 7 (ii (pc s.testBit (m * n)))) 4 8 v6) 4 9 (0 : Int32) = C
  have cf : Fr (fun k _ => k = 4) B C := by
    rw [← hC]
    exact (((Fr.rf _ B).i 4 7 _ rfl).i 4 8 _ rfl).i 4 9 _ rfl
  have c7 : C.1 4 7 = ii (pc s.testBit (m * n)) := by rw [← hC]; rfl
  have c9 : C.1 4 9 = 0 := by rw [← hC]; rfl
  have gC : GI C m n := (h.f fun a j hk => b3 a j (by show ¬ (a = 5); omega)).f fun a j hk => cf a j (by show ¬ (a = 4); omega)
  obtain ⟨E, yE, e1, e2, e3⟩ := line_i 6 (by decide) gC ht (by omega)
  have e7 : E.1 4 7 = ii (pc s.testBit (m * n)) := (e3 4 7 (by show ¬ (4 = 6); decide)).1.trans c7
  refine ⟨E, ?_, e7, (e3 4 9 (by show ¬ (4 = 6); decide)).1.trans c9, ?_⟩
  · unfold d_X2_findAll d_X2_lineUp_k5
    rw [gLine_5, b1]
    show onI (d_X2_lineUp_k6 (ll t) (sI (sI (sI B 4 7 (ii (pc s.testBit (m * n)))) 4 8 v6) 4 9 (0 : Int32))) _ _ = _
    rw [hC]
    unfold d_X2_lineUp_k6
    rw [gLine_6, e1]
    show (if ii (pc t.testBit (m * n)) = E.1 4 7 then _ else _) = _
    rw [e7, if_neg (by rw [ii_eq (by omega) (by omega)]; exact fun z => hne z.symm)]
  · exact ((b3.wk (by intro a b c; unfold wk; omega)).tr (cf.wk (by intro a b c; unfold wk; omega))).tr (e3.wk (by intro a b c; unfold wk; omega))
/-- the first image -/
theorem firstNone_i {k : Nat} (h7 : M.1 4 7 = ii k) (hk : k ≤ 6) (h9 : M.1 4 9 = 0) (v : Int32) : d_X2_firstImage v M = some (-1 : Int32) := by
  unfold d_X2_firstImage
  rw [show (0 : Int32) = ii 0 from rfl, it_full (g := g_X2_firstImage_1 v M) k (fun i => ii i) (b := .inl (ii k)) (by omega) (fun i hi => by
    unfold g_X2_firstImage_1
    rw [h7, h9, if_pos ((ii_lt (by omega) (by omega)).mpr hi), if_pos (by decide), ii_inc]) (by
    unfold g_X2_firstImage_1
    rw [h7, if_neg (by rw [ii_lt (by omega) (by omega)]; omega)])]
  rfl
theorem firstOut_i {k v : Nat} (h7 : M.1 4 7 = ii k) (hk : k ≤ 6) (h5 : ∀ i, i < k → M.1 5 i = ii (el s (m * n) i)) (ps : pc s.testBit (m * n) = k) (hN : m * n ≤ 36) (hv : v < m * n) (hb : ¬ s.testBit v = true) : d_X2_firstImage (ii v) M = some (-1 : Int32) := by
  unfold d_X2_firstImage
  rw [show (0 : Int32) = ii 0 from rfl, it_full (g := g_X2_firstImage_1 (ii v) M) k (fun i => ii i) (b := .inl (ii k)) (by omega) (fun i hi => by
    have hlt := el_lt s (e := m * n) (i := i) (by omega)
    have hin := el_in s (e := m * n) (i := i) (by omega)
    unfold g_X2_firstImage_1
    rw [h7, if_pos ((ii_lt (by omega) (by omega)).mpr hi), show (6 : Int32) = ii 6 from rfl, at_i 5 (show i < 6 by omega) (by decide), h5 i hi, if_neg (show ¬ ii (el s (m * n) i) = ii v by
      rw [ii_eq (by omega) (by omega)]
      intro z
      rw [z] at hin
      exact hb hin), ii_inc]
    split <;> rfl) (by
    unfold g_X2_firstImage_1
    rw [h7, if_neg (by rw [ii_lt (by omega) (by omega)]; omega)])]
  rfl
theorem firstIn_i {k v : Nat} {A : List (List Nat)} (h7 : M.1 4 7 = ii k) (hk : k ≤ 6) (h5 : ∀ i, i < k → M.1 5 i = ii (el s (m * n) i)) (hA : FO M m n t k A) (hl : A.length < 2147483647) (hne : A ≠ []) (ps : pc s.testBit (m * n) = k) (hN : m * n ≤ 36) (hv : v < m * n) (hb : s.testBit v = true) : d_X2_firstImage (ii v) M = some (ii (gx m n t (A.headD []) (pc s.testBit v))) := by
  have hlen : 0 < A.length := List.length_pos_iff.mpr hne
  have hp : pc s.testBit v < k := by
    have := pc_up s.testBit (show v + 1 ≤ m * n by omega)
    rw [pc_succ, if_pos hb] at this
    omega
  unfold d_X2_firstImage
  have key : iter (g_X2_firstImage_1 (ii v) M) 20000 (ii 0) = some (.inr (ii (gx m n t (A.headD []) (pc s.testBit v)))) := by
    refine it_full (g := g_X2_firstImage_1 (ii v) M) (pc s.testBit v) (fun i => ii i) (by omega) (fun i hi => ?_) ?_
    · have hlt := el_lt s (e := m * n) (i := i) (by omega)
      unfold g_X2_firstImage_1
      rw [h7, hA.1, if_pos ((ii_lt (by omega) (by omega)).mpr (by omega)), if_neg (by rw [show (0 : Int32) = ii 0 from rfl, ii_le (by omega) (by decide)]; omega), show (6 : Int32) = ii 6 from rfl, at_i 5 (show i < 6 by omega) (by decide), h5 i (by omega), if_neg (by
        rw [ii_eq (by omega) (by omega), el_iff s (by omega) hv hb]
        omega), ii_inc]
    · unfold g_X2_firstImage_1
      rw [h7, hA.1, if_pos ((ii_lt (by omega) (by omega)).mpr hp), if_neg (by rw [show (0 : Int32) = ii 0 from rfl, ii_le (by omega) (by decide)]; omega), show (6 : Int32) = ii 6 from rfl, at_i 5 (show pc s.testBit v < 6 by omega) (by decide), h5 _ hp, (el_iff s (by omega) hv hb).mpr rfl, if_pos rfl, at_i 8 (show pc s.testBit v < 6 by omega) (by decide), hA.2 hne _ hp]
  rw [show (0 : Int32) = ii 0 from rfl, key]
  rfl
end Found
