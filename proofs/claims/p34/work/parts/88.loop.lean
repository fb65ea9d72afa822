/-! THE LAW: all its turns -/
set_option maxHeartbeats 2000000 in
theorem t_79 {sc : Option (Nat × (Nat → Int32))} {M : Mem} {s : HS} {t k : Nat} (hR : Rel M s) (ht : t < 70) (hk : k + 972 ≤ 180000) (F : Nxt sc 26 (t + 1) (k + 972)) {X : Nat} (hX : X < 2147483648) : At4 sc 79 t (ii X) (ii (X % 15)) (ii (X / 15)) (ii (X / 15 / 30)) s k := by
  have hY : X / 15 < 2147483648 := by omega
  have hZ : X / 15 / 30 < 2147483648 := by omega
  have hW : X % 15 < 15 := Nat.mod_lt X (by decide)
  have hlen := hR.2.2.1.1
  have G : Nxt sc 814 t (k + 100) := fun s k' ⟨M, h⟩ hk' => turn_end h ht (by omega) (fun s k h1 h2 => F s k h1 (by omega))
  intro a10 a11 a12 a13 a14 a15 a16 a17
  have g155 : Ends (D_L_law sc) (155, [some (.ref 30), some (.ref 0), some (.int (ii (s.1.1 * s.1.2))), some (.int (ii s.2.1.length)), some (.int (ii s.2.2.1.length)), some (.int (ii t)), some (.int (ii X)), some (.int (ii (X % 15))), some (.int (ii (X / 15))), some (.int (ii (X / 15 / 30))), a10, a11, a12, a13, a14, a15, a16, a17], [], s, k) := b_set hR (by omega) G hY a10 a11 a12 a13 a14 a15 a16 a17
  have g145 : Ends (D_L_law sc) (145, [some (.ref 30), some (.ref 0), some (.int (ii (s.1.1 * s.1.2))), some (.int (ii s.2.1.length)), some (.int (ii s.2.2.1.length)), some (.int (ii t)), some (.int (ii X)), some (.int (ii (X % 15))), some (.int (ii (X / 15))), some (.int (ii (X / 15 / 30))), a10, a11, a12, a13, a14, a15, a16, a17], [], s, k) := by
    by_cases c5 : X % 15 < 5
    · exact R2.ends (law_s0 (by omega) ((ii_lt (b := 5) (by omega) (by decide)).mpr c5)) g155
    · have n5 : ¬ ii (X % 15) < (5 : Int32) := fun q => c5 ((ii_lt (b := 5) (by omega) (by decide)).mp q)
      by_cases c0 : s.2.1.length = 0
      · exact R2.ends (law_s1 (by omega) n5 (by rw [c0]; rfl)) g155
      · have hc : 0 < s.2.1.length := Nat.pos_of_ne_zero c0
        refine R2.ends (law_s2 (by omega) n5 (ii_ne0 hc (by omega))) ?_
        by_cases c8 : X % 15 < 8
        · exact b_comb hR (by omega) G hc hX c8 hY hZ a10 a11 a12 a13 a14 a15 a16 a17
        · refine R2.ends (law_c0 (by omega) (fun q => c8 ((ii_lt (b := 8) (by omega) (by decide)).mp q))) ?_
          by_cases e8 : X % 15 = 8
          · rw [e8]
            exact b_put hR (by omega) G hZ a10 a11 a12 a13 a14 a15 a16 a17
          · refine R2.ends (law_p0 (by omega) (fun q => e8 ((ii_eq (b := 8) (by omega) (by decide)).mp q))) ?_
            exact b_ask hR (by omega) G hc hY hZ a10 a11 a12 a13 a14 a15 a16 a17
  have g96 : Ends (D_L_law sc) (96, [some (.ref 30), some (.ref 0), some (.int (ii (s.1.1 * s.1.2))), some (.int (ii s.2.1.length)), some (.int (ii s.2.2.1.length)), some (.int (ii t)), some (.int (ii X)), some (.int (ii (X % 15))), some (.int (ii (X / 15))), some (.int (ii (X / 15 / 30))), a10, a11, a12, a13, a14, a15, a16, a17], [], s, k) := b_group hR (by omega) G hY hZ a10 a11 a12 a13 a14 a15 a16 a17
  have g91 : Ends (D_L_law sc) (91, [some (.ref 30), some (.ref 0), some (.int (ii (s.1.1 * s.1.2))), some (.int (ii s.2.1.length)), some (.int (ii s.2.2.1.length)), some (.int (ii t)), some (.int (ii X)), some (.int (ii (X % 15))), some (.int (ii (X / 15))), some (.int (ii (X / 15 / 30))), a10, a11, a12, a13, a14, a15, a16, a17], [], s, k) := by
    by_cases c : ii t = 0
    · exact R2.ends (law_k0 (by omega) c) g96
    · exact R2.ends (law_k1 (by omega) c) g145
  by_cases c : ii (X % 15) = 0
  · refine R2.ends (law_w0 (by omega) c) ?_
    by_cases c3 : (ii (X / 15) - ii (X / 15) / (3 : Int32) * (3 : Int32)) = 0
    · exact R2.ends (law_y0 (by omega) c3) g96
    · exact R2.ends (law_y1 (by omega) c3) g91
  · exact R2.ends (law_w1 (by omega) c) g91
set_option maxHeartbeats 2000000 in
theorem t_56 {sc : Option (Nat × (Nat → Int32))} {M : Mem} {s : HS} {t k : Nat} (hR : Rel M s) (ht : t < 70) (hk : k + 972 ≤ 180000) (F : Nxt sc 26 (t + 1) (k + 972)) {X : Nat} (hX : X < 2147483648) (a6 a7 a8 a9 a10 a11 a12 a13 a14 a15 a16 a17 : Option Value) : Ends (D_L_law sc) (56, [some (.ref 30), some (.ref 0), some (.int (ii (s.1.1 * s.1.2))), some (.int (ii s.2.1.length)), some (.int (ii s.2.2.1.length)), some (.int (ii t)), a6, a7, a8, a9, a10, a11, a12, a13, a14, a15, a16, a17], [.int (ii X)], s, k) := by
  refine R2.ends (law_x (by omega)) ?_
  rw [show (15 : Int32) = ii 15 from rfl, show (30 : Int32) = ii 30 from rfl, rm_i hX (by decide), ii_div hX (by decide), ii_div (by omega) (by decide)]
  exact t_79 hR ht hk F hX a10 a11 a12 a13 a14 a15 a16 a17
set_option maxRecDepth 10000 in
set_option maxHeartbeats 2000000 in
theorem law_loop {sc : Option (Nat × (Nat → Int32))} {L : Nat} {xs : Nat → Int32} (hs : sc = some (L, xs)) (hL : L < 100000) : ∀ (d t : Nat), t + d = 70 → ∀ (s : HS) (k : Nat), (∃ M, Rel M s) → k + 972 * d ≤ 180000 → At sc 26 t s k
  | 0, t, ht, s, k, _, hk => by
    have ht : t = 70 := by omega
    subst ht
    intro a6 a7 a8 a9 a10 a11 a12 a13 a14 a15 a16 a17
    exact ⟨s, k, law_end (by omega) (by decide)⟩
  | d + 1, t, ht, s, k, ⟨M, hR⟩, hk => by
    have hk2 : k + 972 ≤ 180000 := by omega
    have ht2 : t < 70 := by omega
    have F : Nxt sc 26 (t + 1) (k + 972) := fun s' k' h hk' => law_loop hs hL d (t + 1) (by omega) s' k' h (by omega)
    have h70 : ii t < (70 : Int32) := (ii_lt (b := 70) (by omega) (by decide)).mpr (by omega)
    intro a6 a7 a8 a9 a10 a11 a12 a13 a14 a15 a16 a17
    by_cases c : L = 0
    · have hx2 : 103 * t < 2147483648 := by omega
      refine R2.ends (law_h0 hs (by omega) h70 (by rw [c]; rfl)) ?_
      rw [show (103 : Int32) = ii 103 from rfl, ii_mul]
      exact t_56 hR ht2 hk2 F hx2 a6 a7 a8 a9 a10 a11 a12 a13 a14 a15 a16 a17
    · have hz : ¬ ii L = 0 := ii_ne0 (Nat.pos_of_ne_zero c) (by omega)
      refine R2.ends (law_h1 hs (by omega) h70 hz hz (by rw [rm_i (by omega) (by omega)]; exact ii_inb (Nat.mod_lt t (Nat.pos_of_ne_zero c)) (by omega))) ?_
      generalize xs (ix (ii t - ii t / ii L * ii L)) = v
      have hv := v.toBitVec.isLt
      rw [ii_all v, show (8 : Int32) = ii 8 from rfl, ii_shr hv (by decide)]
      have h8 : v.toBitVec.toNat >>> 8 < 2147483648 := by
        rw [Nat.shiftRight_eq_div_pow]
        omega
      exact t_56 hR ht2 hk2 F h8 a6 a7 a8 a9 a10 a11 a12 a13 a14 a15 a16 a17
theorem law_all {L : Nat} {xs : Nat → Int32} (hL : L < 100000) {M : Mem} (hR : Rel M h0) : Ends (D_L_law (some (L, xs))) (16, [some (.ref 30), some (.ref 0), none, none, none, none, none, none, none, none, none, none, none, none, none, none, none, none], [], h0, 0) :=
  R2.ends (law_in (by omega)) (law_loop rfl hL 70 0 rfl h0 0 ⟨M, hR⟩ (by decide) none none none none none none none none none none none none)
theorem law_run {L : Nat} {xs : Nat → Int32} (hL : L < 100000) {MG : Mem} (hgi : GI MG 1 1) : ∃ Mf, Rend (C_L_law (some (L, xs))) (16, [some (.ref 30), some (.ref 0), none, none, none, none, none, none, none, none, none, none, none, none, none, none, none, none], [], Mz MG, 0) (.inl (some (.int 1))) Mf := by
  obtain ⟨s, k, N, hN⟩ := law_all (xs := xs) hL (rel0 hgi)
  obtain ⟨M', e1, e2⟩ := run2_sim (s2_L_law _) N _ _ _ (Mz MG) _ _ _ (rel0 hgi) hN
  exact ⟨M', Rend.run N e1⟩
