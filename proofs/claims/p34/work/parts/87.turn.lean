/-! THE LAW: a turn -/
/-- the run ends with true -/
def Ends (D : Cfg2) (x : St2) : Prop := ∃ sf kf, E2 D x (.inl (some (.int 1)), sf, kf)
theorem R2.ends {D : Cfg2} {x y : St2} (h : R2 D x y) (g : Ends D y) : Ends D x := let ⟨sf, kf, e⟩ := g; ⟨sf, kf, h.en e⟩
/-- from a place of the law's code on, true is answered, whatever the later cells hold -/
def At (sc : Option (Nat × (Nat → Int32))) (pc t : Nat) (s : HS) (k : Nat) : Prop := ∀ a6 a7 a8 a9 a10 a11 a12 a13 a14 a15 a16 a17 : Option Value, Ends (D_L_law sc) (pc, [some (.ref 30), some (.ref 0), some (.int (ii (s.1.1 * s.1.2))), some (.int (ii s.2.1.length)), some (.int (ii s.2.2.1.length)), some (.int (ii t)), a6, a7, a8, a9, a10, a11, a12, a13, a14, a15, a16, a17], [], s, k)
def At4 (sc : Option (Nat × (Nat → Int32))) (pc t : Nat) (x w y z : Int32) (s : HS) (k : Nat) : Prop := ∀ a10 a11 a12 a13 a14 a15 a16 a17 : Option Value, Ends (D_L_law sc) (pc, [some (.ref 30), some (.ref 0), some (.int (ii (s.1.1 * s.1.2))), some (.int (ii s.2.1.length)), some (.int (ii s.2.2.1.length)), some (.int (ii t)), some (.int x), some (.int w), some (.int y), some (.int z), a10, a11, a12, a13, a14, a15, a16, a17], [], s, k)
def Nxt (sc : Option (Nat × (Nat → Int32))) (pc t : Nat) (K : Nat) : Prop := ∀ (s : HS) (k : Nat), (∃ M, Rel M s) → k ≤ K → At sc pc t s k
theorem rel_act {M : Mem} {s : HS} {av : List Value} {x : Ans} (hR : Rel M s) (h : q_act av s = some x) : ∃ M', Rel M' x.2 :=
  let ⟨M', _, h⟩ := sim_act av M s x hR h
  ⟨M', h⟩
theorem rel_group {M : Mem} {s : HS} {av : List Value} {x : Ans} (hR : Rel M s) (h : q_group av s = some x) : ∃ M', Rel M' x.2 :=
  let ⟨M', _, h⟩ := sim_group av M s x hR h
  ⟨M', h⟩
theorem rm_i {a b : Nat} (ha : a < 2147483648) (hb : b < 2147483648) : ii a - ii a / ii b * ii b = ii (a % b) := ii_rem ha hb
theorem i_0 (x : Int32) : x + (0 : Int32) = x := Int32.add_zero x
theorem lc_r {a b : Int64} : lg_cmp a b = 0 ↔ a = b := lg_cmp_eq a b
theorem no_7 {c : Nat} (hc : c < 100) : ¬ (-7000003 : Int64) = (ii c).toInt64 := fun e => by
  rw [ii_i64 (by omega), show (-7000003 : Int64) = ll 18446744073702551613 from by decide +kernel, ll_eq (by decide) (by omega)] at e
  omega
theorem kp_cases (s : HS) (v : Nat) : kpP s v = aX 3 s ∨ (v ≠ 0 ∧ kpP s v = aI (ii s.2.1.length) (s.1, s.2.1 ++ [v], s.2.2)) := by
  unfold kpP
  by_cases h : v = 0
  · subst h; exact Or.inl rfl
  · rw [show Nat.beq v 0 = false from by rw [← Bool.not_eq_true, nb]; exact h, Bool.false_or]
    cases Nat.ble 30 s.2.1.length
    · exact Or.inr ⟨h, rfl⟩
    · exact Or.inl rfl
theorem len_app (s : HS) (v : Nat) : (s.1, s.2.1 ++ [v], s.2.2).2.1.length = s.2.1.length + 1 := by
  show (s.2.1 ++ [v]).length = _
  rw [List.length_append]; rfl

set_option maxHeartbeats 2000000 in
theorem turn_end {sc : Option (Nat × (Nat → Int32))} {M : Mem} {s : HS} {t k : Nat} (hR : Rel M s) (ht : t < 70) (hk : k + 872 ≤ 180000) (F : Nxt sc 26 (t + 1) (k + 872)) : At sc 814 t s k := by
  intro a6 a7 a8 a9 a10 a11 a12 a13 a14 a15 a16 a17
  by_cases c : (ii t - ii t / (16 : Int32) * (16 : Int32)) = 0
  · have h := F s (k + 872) ⟨M, hR⟩ (Nat.le_refl _) a6 a7 a8 a9 a10 a11 a12 a13 a14 a15 a16 a17
    rw [← ii_inc] at h
    have hq : q_refuses [.ref 0, .int (ii (s.1.1 * s.1.2)), .int (ii s.2.1.length)] s = some (.inl (some (.int 1)), s) := by
      unfold q_refuses
      dsimp only
      rw [decide_eq_true (rfl : ii (s.1.1 * s.1.2) = ii (s.1.1 * s.1.2)), decide_eq_true (rfl : ii s.2.1.length = ii s.2.1.length)]
      rfl
    exact R2.ends (law_r1 hk c hq (by decide)) h
  · have h := F s k ⟨M, hR⟩ (by omega) a6 a7 a8 a9 a10 a11 a12 a13 a14 a15 a16 a17
    rw [← ii_inc] at h
    exact R2.ends (law_r0 (by omega) c) h
set_option maxHeartbeats 2000000 in
theorem b_group {sc : Option (Nat × (Nat → Int32))} {M : Mem} {s : HS} {t k : Nat} (hR : Rel M s) (hk : k + 100 ≤ 180000) (F : Nxt sc 814 t (k + 100)) {x w : Int32} {Y Z : Nat} (hY : Y < 2147483648) (hZ : Z < 2147483648) : At4 sc 96 t x w (ii Y) (ii Z) s k := by
  intro a10 a11 a12 a13 a14 a15 a16 a17
  have h4 := Nat.mod_lt Y (show 0 < 4 by decide)
  have h9 := Nat.mod_lt Z (show 0 < 9 by decide)
  have hab : (1 + Y % 4) * (1 + Z % 9) ≤ 4 * 9 := Nat.mul_le_mul (by omega) (by omega)
  have ea : (1 : Int32) + (ii Y - ii Y / (4 : Int32) * (4 : Int32)) = ii (1 + Y % 4) := by rw [show (4 : Int32) = ii 4 from rfl, rm_i hY (by decide)]; exact ii_add 1 _
  have eb : (1 : Int32) + (ii Z - ii Z / (9 : Int32) * (9 : Int32)) = ii (1 + Z % 9) := by rw [show (9 : Int32) = ii 9 from rfl, rm_i hZ (by decide)]; exact ii_add 1 _
  have hq : q_group [.ref 0, .int (ii (1 + Y % 4)), .int (ii (1 + Z % 9))] s = some (.inl (some (.int (ii ((1 + Y % 4) * (1 + Z % 9))))), ((1 + Y % 4, 1 + Z % 9), [], [], 0, 0)) := by
    show some (p_group (ii (1 + Y % 4)) (ii (1 + Z % 9)) s) = _
    unfold p_group
    rw [rg_ok (by omega) (by omega) (by decide), rg_ok (by omega) (by omega) (by decide)]
    show some (bif Nat.ble ((1 + Y % 4) * (1 + Z % 9)) 36 then _ else _) = _
    rw [Nat.ble_eq_true_of_le hab, cond_true]
    rfl
  have h := F _ (k + 1) (rel_group hR hq) (by omega) (some (.int x)) (some (.int w)) (some (.int (ii Y))) (some (.int (ii Z))) (some (.int (ii (1 + Y % 4)))) (some (.int (ii (1 + Z % 9)))) a12 a13 a14 a15 a16 a17
  refine R2.ends (law_g1 (by omega)) ?_
  rw [ea, eb]
  refine R2.ends (law_g2 (by omega) hq (ii_mul _ _).symm) ?_
  rw [ii_mul]
  exact h
theorem its_ok {N j : Nat} (hj : j < N) (hN : N ≤ 36) (p : Nat) : ((ll p ||| ll (2 ^ j)) &&& (ll (2 ^ N) - (1 : Int64))) = ll ((p ||| 2 ^ j) &&& (2 ^ N - 1)) ∧ ((p ||| 2 ^ j) &&& (2 ^ N - 1)) ≠ 0 ∧ ((p ||| 2 ^ j) &&& (2 ^ N - 1)) < 2 ^ N := by
  have hp := Nat.two_pow_pos N
  refine ⟨?_, fun z => ?_, ?_⟩
  · rw [ll_or, show (1 : Int64) = ll 1 from rfl, ll_sub hp, ll_and]
  · have : ((p ||| 2 ^ j) &&& (2 ^ N - 1)).testBit j = true := by
      rw [Nat.testBit_and, Nat.testBit_or, Nat.testBit_two_pow, decide_eq_true rfl, Bool.or_true, Bool.true_and]
      exact (full_bit N j).mpr hj
    rw [z, Nat.zero_testBit] at this
    cases this
  · exact Nat.lt_of_le_of_lt Nat.and_le_right (by omega)
theorem set_ok {M : Mem} {s : HS} (hR : Rel M s) {v : Nat} (h0 : v ≠ 0) (hv : v < 2 ^ (s.1.1 * s.1.2)) : p_set (ll v) s = kpP s v := by
  have h64 := set64 hv hR.1.2.2.1
  unfold p_set
  rw [ll_nat, Nat.mod_eq_of_lt h64, show Nat.beq v 0 = false from by rw [← Bool.not_eq_true, nb]; exact h0, show Nat.blt v (2 ^ (s.1.1 * s.1.2)) = true from Nat.ble_eq_true_of_le hv]
  rfl
theorem kp_30 {s : HS} {v : Nat} (h : 30 ≤ s.2.1.length) : kpP s v = aX 3 s := by
  unfold kpP
  rw [Nat.ble_eq_true_of_le h, Bool.or_true]
  rfl
theorem kp_lt {s : HS} {v : Nat} (h0 : v ≠ 0) (h : s.2.1.length < 30) : kpP s v = aI (ii s.2.1.length) (s.1, s.2.1 ++ [v], s.2.2) := by
  unfold kpP
  rw [show Nat.beq v 0 = false from by rw [← Bool.not_eq_true, nb]; exact h0, show Nat.ble 30 s.2.1.length = false from by rw [← Bool.not_eq_true, nble]; omega]
  rfl
set_option maxHeartbeats 2000000 in
theorem b_set {sc : Option (Nat × (Nat → Int32))} {M : Mem} {s : HS} {t k : Nat} (hR : Rel M s) (hk : k + 100 ≤ 180000) (F : Nxt sc 814 t (k + 100)) {x w z : Int32} {Y : Nat} (hY : Y < 2147483648) : At4 sc 155 t x w (ii Y) z s k := by
  intro a10 a11 a12 a13 a14 a15 a16 a17
  have hm := hR.1.1
  have hn := hR.1.2.1
  have hN := hR.1.2.2.1
  have hp := Nat.mul_pos hm hn
  have hlen := hR.2.2.1.1
  obtain ⟨p, -, ep⟩ := ll_of (jushr (x.toInt64 * (2654435761 : Int64)) (7 : Int32))
  have hj := Nat.mod_lt Y hp
  obtain ⟨v, e1, e2, e3⟩ : ∃ v, ((ll p ||| ll (2 ^ (Y % (s.1.1 * s.1.2)))) &&& (ll (2 ^ (s.1.1 * s.1.2)) - (1 : Int64))) = ll v ∧ v ≠ 0 ∧ v < 2 ^ (s.1.1 * s.1.2) := ⟨_, its_ok hj hN p⟩
  refine R2.ends (law_s3 (by omega) (ii_ne0 hp (by omega))) ?_
  rw [ep, rm_i hY (by omega), mbit_i (show Y % (s.1.1 * s.1.2) < 64 by omega), mbit_i (show s.1.1 * s.1.2 < 64 by omega), e1]
  have ha := aw_2 (ll v) (0 : Int32) (0 : Int32) (0 : Int32) s
  rw [set_ok hR e2 e3] at ha
  by_cases c : s.2.1.length < 30
  · rw [kp_lt e2 c] at ha
    have h := F _ (k + 4) (rel_act hR ha) (by omega) (some (.int x)) (some (.int w)) (some (.int (ii Y))) (some (.int z)) (some (.long (ll v))) none a12 a13 a14 a15 a16 a17
    refine R2.ends (law_s4 (by omega) ha ((ii_lt (by omega) (by decide)).mpr c) (lc_r.mpr rfl)) ?_
    rw [ii_inc, ← len_app s v]
    exact h
  · rw [kp_30 (by omega)] at ha
    have h := F _ (k + 4) (rel_act hR ha) (by omega) (some (.int x)) (some (.int w)) (some (.int (ii Y))) (some (.int z)) (some (.long (ll v))) none a12 a13 a14 a15 a16 a17
    refine R2.ends (law_s5 (by omega) ha (fun q => c ((ii_lt (by omega) (by decide)).mp q)) (by decide)) ?_
    rw [i_0]
    exact h
/-- what a set's keeping answers, as act gives it -/
theorem kp_act {M : Mem} {s : HS} {v : Nat} (hR : Rel M s) {av : List Value} (h : q_act av s = some (cvA (kpP s v))) : ∃ r s', q_act av s = some (.inl (some (.long r)), s') ∧ (∃ M', Rel M' s') ∧ ((r = (-7000003 : Int64) ∧ s' = s) ∨ (v ≠ 0 ∧ r = (ii s.2.1.length).toInt64 ∧ s' = (s.1, s.2.1 ++ [v], s.2.2))) := by
  have hr := rel_act hR h
  rcases kp_cases s v with e | ⟨e1, e⟩
  · rw [e] at h hr
    exact ⟨_, _, h, hr, Or.inl ⟨rfl, rfl⟩⟩
  · rw [e] at h hr
    exact ⟨_, _, h, hr, Or.inr ⟨e1, rfl, rfl⟩⟩
theorem gN_last (l : List Nat) (v : Nat) : gN (l ++ [v]) l.length = v := by
  rw [← gN_app l v l.length (Nat.lt_succ_self _), if_pos rfl]
set_option maxHeartbeats 2000000 in
theorem b_kept {sc : Option (Nat × (Nat → Int32))} {M : Mem} {s : HS} {t k : Nat} (hR : Rel M s) {s' : HS} {r : Int64} {v : Nat} (hk : k + 50 ≤ 180000) (F : Nxt sc 814 t (k + 50)) (hM : ∃ M', Rel M' s') (hc : (r = (-7000003 : Int64) ∧ s' = s) ∨ (v ≠ 0 ∧ r = (ii s.2.1.length).toInt64 ∧ s' = (s.1, s.2.1 ++ [v], s.2.2))) {x w y z : Int32} {a10 a11 a12 a13 a14 a15 a16 a17 : Option Value} : Ends (D_L_law sc) (287, [some (.ref 30), some (.ref 0), some (.int (ii (s.1.1 * s.1.2))), some (.int (ii s.2.1.length)), some (.int (ii s.2.2.1.length)), some (.int (ii t)), some (.int x), some (.int w), some (.int y), some (.int z), a10, a11, a12, a13, a14, a15, a16, a17], [.long r], s', k) := by
  have hlen := hR.2.2.1.1
  rcases hc with ⟨e1, e2⟩ | ⟨e0, e1, e2⟩
  · subst e1; subst e2
    have h := F _ k hM (by omega) (some (.int x)) (some (.int w)) (some (.int y)) (some (.int z)) (some (.long (-7000003 : Int64))) none a12 a13 a14 a15 a16 a17
    refine R2.ends (law_c4 (by omega) (fun q => no_7 (by omega) (lc_r.mp q)) (lc_r.mpr rfl)) ?_
    rw [i_0]
    exact h
  · subst e1; subst e2
    obtain ⟨M', hM⟩ := hM
    have h := F _ (k + 1) ⟨M', hM⟩ (by omega) (some (.int x)) (some (.int w)) (some (.int y)) (some (.int z)) (some (.long (ii s.2.1.length).toInt64)) none a12 a13 a14 a15 a16 a17
    have hl : s.2.1.length < (s.1, s.2.1 ++ [v], s.2.2).2.1.length := by rw [len_app]; omega
    have hv := (hM.2.2.1.2.2.2 s.2.1.length hl).2.2
    have hq : q_elements [.ref 0, .int (ii s.2.1.length)] (s.1, s.2.1 ++ [v], s.2.2) = some (.inl (some (.long (ll v))), (s.1, s.2.1 ++ [v], s.2.2)) := by
      refine congrArg some ((onS_ok hM hl).trans ?_)
      show aL (ll (gN (s.2.1 ++ [v]) s.2.1.length)) _ = _
      rw [gN_last]
      rfl
    have hg : gN (s.2.1 ++ [v]) s.2.1.length = v := gN_last s.2.1 v
    have hv2 : v < 2 ^ (s.1.1 * s.1.2) := by
      have h9 : gN (s.2.1 ++ [v]) s.2.1.length < 2 ^ (s.1.1 * s.1.2) := hv.1
      rw [hg] at h9
      exact h9
    refine R2.ends (law_c3 (by omega) (lc_r.mpr rfl) hq (fun q => e0 ((lc_z (set64 hv2 hR.1.2.2.1)).mp q))) ?_
    rw [ii_inc, ← len_app s v]
    exact h
set_option maxHeartbeats 2000000 in
theorem b_comb {sc : Option (Nat × (Nat → Int32))} {M : Mem} {s : HS} {t k : Nat} (hR : Rel M s) (hk : k + 100 ≤ 180000) (F : Nxt sc 814 t (k + 100)) (hc : 0 < s.2.1.length) {X W Y Z : Nat} (hX : X < 2147483648) (hW : W < 8) (hY : Y < 2147483648) (hZ : Z < 2147483648) : At4 sc 226 t (ii X) (ii W) (ii Y) (ii Z) s k := by
  intro a10 a11 a12 a13 a14 a15 a16 a17
  have hm := hR.1.1
  have hn := hR.1.2.1
  have hN := hR.1.2.2.1
  have hp := Nat.mul_pos hm hn
  have hlen := hR.2.2.1.1
  have h8 : ii W < (8 : Int32) := (ii_lt (b := 8) (by omega) (by decide)).mpr hW
  have hz := ii_ne0 hc (by omega)
  have F' : Nxt sc 814 t (k + 4 + 96) := F
  by_cases c : W = 7
  · subst c
    obtain ⟨r, s', hq, hM, hk2⟩ := kp_act hR (v := mvC s.1.1 s.1.2 (gN s.2.1 (Y % s.2.1.length)) ((Z % 201 : Nat) - 100 : Int) (X % (s.1.1 * s.1.2))) (av := [.ref 0, .int (4 : Int32), .long (ii (Y % s.2.1.length)).toInt64, .int (zi ((Z % 201 : Nat) - 100 : Int)), .int (ii (X % (s.1.1 * s.1.2))), .int (0 : Int32)]) (by
      rw [aw_4, i64_32]
      refine congrArg (fun q => some (cvA q)) ?_
      refine (onS_ok hR (Nat.mod_lt Y hc)).trans ((onE_ok hR (Nat.mod_lt X hp)).trans ?_)
      rw [rz_ok (by omega) (by have := Nat.mod_lt Z (show 0 < 201 by decide); omega)]
      rfl)
    refine R2.ends (law_c1 (r := r) (s' := s') (by omega) h8 rfl hz (ii_ne0 hp (by omega)) ?_) ?_
    · rw [rm_i hY (by omega), rm_i hX (by omega), show (201 : Int32) = ii 201 from rfl, rm_i hZ (by decide), show ii (Z % 201) - (100 : Int32) = zi ((Z % 201 : Nat) - 100 : Int) from by rw [← zi_ii, show (100 : Int32) = zi 100 from rfl, zi_sub]]
      exact hq
    · exact b_kept hR (by omega) (fun s k h1 h2 => F s k h1 (by omega)) hM hk2
  · obtain ⟨r, s', hq, hM, hk2⟩ := kp_act hR (v := cbC s.1.1 s.1.2 (Y % 6) (gN s.2.1 (Z % s.2.1.length)) (gN s.2.1 (X % s.2.1.length))) (av := [.ref 0, .int (3 : Int32), .long (ii (Y % 6)).toInt64, .int (ii (Z % s.2.1.length)), .int (ii (X % s.2.1.length)), .int (0 : Int32)]) (by
      rw [aw_3, i64_32]
      refine congrArg (fun q => some (cvA q)) ?_
      refine (onS_ok hR (Nat.mod_lt Z hc)).trans ((onS_ok hR (Nat.mod_lt X hc)).trans ?_)
      rw [rg_ok (by omega) (by have := Nat.mod_lt Y (show 0 < 6 by decide); omega) (by decide)]
      rfl)
    refine R2.ends (law_c2 (r := r) (s' := s') (by omega) h8 (fun q => c ((ii_eq (b := 7) (by omega) (by decide)).mp q)) hz ?_) ?_
    · rw [rm_i hZ (by omega), rm_i hX (by omega), show (6 : Int32) = ii 6 from rfl, rm_i hY (by decide)]
      exact hq
    · exact b_kept hR (by omega) (fun s k h1 h2 => F s k h1 (by omega)) hM hk2
set_option maxHeartbeats 2000000 in
theorem b_zero {sc : Option (Nat × (Nat → Int32))} {M : Mem} {s : HS} {t k : Nat} (hR : Rel M s) (hk : k + 50 ≤ 180000) (F : Nxt sc 814 t (k + 50)) {x w y z : Int32} {a10 a11 a12 a13 a14 a15 a16 a17 : Option Value} : Ends (D_L_law sc) (406, [some (.ref 30), some (.ref 0), some (.int (ii (s.1.1 * s.1.2))), some (.int (ii s.2.1.length)), some (.int (ii s.2.2.1.length)), some (.int (ii t)), some (.int x), some (.int w), some (.int y), some (.int z), a10, a11, a12, a13, a14, a15, a16, a17], [], s, k) := by
  have hr := hR.2.2.2.1.1
  have hz := zb_lt s.1.1 s.1.2 (gN s.2.2.1) s.2.2.1.length
  have h12 : 2 ^ s.2.2.1.length ≤ 2 ^ 12 := Nat.pow_le_pow_right (by decide) hr
  have h := F s k ⟨M, hR⟩ (by omega) (some (.int x)) (some (.int w)) (some (.int y)) (some (.int z)) a10 a11 a12 a13 a14 a15 a16 a17
  refine R2.ends (law_p3 (by omega) (show q_zero [.ref 0] s = some (.inl (some (.int (ii (zb s.1.1 s.1.2 (gN s.2.2.1) s.2.2.1.length (2 ^ s.2.2.1.length))))), s) from rfl) ?_ (ii_lt0 (by omega))) h
  rw [jsl_i _ (by omega), ii_lt (by omega) (by omega)]
  exact hz
theorem put_app (s : HS) (v : Nat) : (s.1, s.2.1, s.2.2.1 ++ [v], s.2.2.2).2.2.1.length = s.2.2.1.length + 1 := by
  show (s.2.2.1 ++ [v]).length = _
  rw [List.length_append]; rfl
set_option maxHeartbeats 2000000 in
theorem b_put {sc : Option (Nat × (Nat → Int32))} {M : Mem} {s : HS} {t k : Nat} (hR : Rel M s) (hk : k + 100 ≤ 180000) (F : Nxt sc 814 t (k + 100)) {x y : Int32} {Z : Nat} (hZ : Z < 2147483648) : At4 sc 345 t x (8 : Int32) y (ii Z) s k := by
  intro a10 a11 a12 a13 a14 a15 a16 a17
  have hp := Nat.mul_pos hR.1.1 hR.1.2.1
  have hN := hR.1.2.2.1
  have hr := hR.2.2.2.1.1
  have ha := aw_23 (ii (Z % (s.1.1 * s.1.2))).toInt64 (0 : Int32) (0 : Int32) (0 : Int32) s
  rw [i64_32, show p_put (ii (Z % (s.1.1 * s.1.2))) s = (bif Nat.ble 12 s.2.2.1.length then aX 3 s else aI (ii (s.2.2.1.length + 1)) (s.1, s.2.1, s.2.2.1 ++ [Z % (s.1.1 * s.1.2)], s.2.2.2)) from onE_ok hR (Nat.mod_lt Z hp)] at ha
  by_cases c : s.2.2.1.length < 12
  · rw [show Nat.ble 12 s.2.2.1.length = false from by rw [← Bool.not_eq_true, nble]; omega, cond_false] at ha
    refine R2.ends (law_p1 (r := (ii (s.2.2.1.length + 1)).toInt64) (s' := (s.1, s.2.1, s.2.2.1 ++ [Z % (s.1.1 * s.1.2)], s.2.2.2)) (by omega) rfl (ii_ne0 hp (by omega)) ?_ ((ii_lt (b := 12) (by omega) (by decide)).mpr c) (lc_r.mpr (by rw [ii_inc]))) ?_
    · rw [rm_i hZ (by omega)]
      exact ha
    · obtain ⟨M', hM⟩ := rel_act hR ha
      have hM : Rel M' (s.1, s.2.1, s.2.2.1 ++ [Z % (s.1.1 * s.1.2)], s.2.2.2) := hM
      rw [ii_inc, ← put_app s (Z % (s.1.1 * s.1.2))]
      exact b_zero hM (by omega) (fun s k h1 h2 => F s k h1 (by omega))
  · rw [Nat.ble_eq_true_of_le (by omega), cond_true] at ha
    refine R2.ends (law_p2 (r := (-7000003 : Int64)) (s' := s) (by omega) rfl (ii_ne0 hp (by omega)) ?_ (fun q => c ((ii_lt (b := 12) (by omega) (by decide)).mp q)) (by decide)) ?_
    · rw [rm_i hZ (by omega)]
      exact ha
    · rw [i_0]
      exact b_zero hR (by omega) (fun s k h1 h2 => F s k h1 (by omega))
theorem gt_act {M : Mem} {s : HS} (hR : Rel M s) {i r : Nat} (hi : i < s.2.1.length) (hr : r < 4) : p_greatest (ii i) (ii r) s = (bif Nat.ble (sz (gN s.2.1 i)) 12 then aL (ll (gsC s.1.1 s.1.2 r (gN s.2.1 i) (gN s.2.1 i + 1))) s else aX 3 s) := by
  refine (onS_ok hR hi).trans ?_
  rw [rg_ok (by omega) (by omega) (by decide)]
  rfl
theorem kp_q {M : Mem} {s : HS} (hR : Rel M s) {i r : Nat} (hi : i < s.2.1.length) (hr : r < 4) : q_keeps [.ref 0, .int (ii i), .int (ii r)] s = some (.inl (some (.int (boI (kpC s.1.1 s.1.2 r (gN s.2.1 i))))), s) := by
  refine congrArg some ((onS_ok hR hi).trans ?_)
  rw [rg_ok (by omega) (by omega) (by decide)]
  rfl
theorem el_q {M : Mem} {s : HS} (hR : Rel M s) {i : Nat} (hi : i < s.2.1.length) : q_elements [.ref 0, .int (ii i)] s = some (.inl (some (.long (ll (gN s.2.1 i)))), s) := congrArg some (onS_ok hR hi)
theorem nt_0 {x y N : Nat} (hx : x < 2 ^ N) (hN : N ≤ 36) (h : Sub x y) : lg_cmp (ll x &&& (ll y ^^^ (-1 : Int64))) (0 : Int64) = 0 := by
  have h64 := set64 hx hN
  rw [ll_not, ll_and, and_not h64 h]
  rfl
set_option maxHeartbeats 4000000 in
theorem b_rules {sc : Option (Nat × (Nat → Int32))} {M : Mem} {s : HS} {t K i : Nat} (hR : Rel M s) (hi : i < s.2.1.length) (hK : K ≤ 180000) (F : Nxt sc 814 t K) {x w y z b od : Int32} : ∀ (d r k : Nat), r + d = 4 → k + 12 * d ≤ K → ∀ a15 a16 a17 : Option Value, Ends (D_L_law sc) (664, [some (.ref 30), some (.ref 0), some (.int (ii (s.1.1 * s.1.2))), some (.int (ii s.2.1.length)), some (.int (ii s.2.2.1.length)), some (.int (ii t)), some (.int x), some (.int w), some (.int y), some (.int z), some (.int (ii i)), some (.int b), some (.int od), some (.int (ii (sz (gN s.2.1 i)))), some (.int (ii r)), a15, a16, a17], [], s, k)
  | 0, r, k, hr, hk, a15, a16, a17 => by
    have hr : r = 4 := by omega
    subst hr
    exact R2.ends (law_u0 (by omega) (by decide)) (F s k ⟨M, hR⟩ (by omega) _ _ _ _ _ _ _ _ _ _ _ _)
  | d + 1, r, k, hr, hk, a15, a16, a17 => by
    have hm := hR.1.1
    have hn := hR.1.2.1
    have hN := hR.1.2.2.1
    have hr4 : ii r < (4 : Int32) := (ii_lt (b := 4) (by omega) (by decide)).mpr (by omega)
    have hsz := sz_le (gN s.2.1 i)
    have hA := (hR.2.2.1.2.2.2 i hi).2.2.1
    have ih := fun (k' : Nat) (h : k' + 12 * d ≤ K) => b_rules hR hi hK F (x := x) (w := w) (y := y) (z := z) (b := b) (od := od) d (r + 1) k' (by omega) h
    by_cases c8 : sz (gN s.2.1 i) < 8 ∨ 12 < sz (gN s.2.1 i)
    · have go : ∀ a15 a16 a17 : Option Value, Ends (D_L_law sc) (684, [some (.ref 30), some (.ref 0), some (.int (ii (s.1.1 * s.1.2))), some (.int (ii s.2.1.length)), some (.int (ii s.2.2.1.length)), some (.int (ii t)), some (.int x), some (.int w), some (.int y), some (.int z), some (.int (ii i)), some (.int b), some (.int od), some (.int (ii (sz (gN s.2.1 i)))), some (.int (ii r)), a15, a16, a17], [], s, k) := by
        intro a15 a16 a17
        have h20 := aw_20 (ii i).toInt64 (ii r) (0 : Int32) (0 : Int32) s
        have h21 := aw_21 (ii i).toInt64 (ii r) (0 : Int32) (0 : Int32) s
        rw [i64_32, gt_act hR hi (by omega)] at h20 h21
        by_cases c12 : sz (gN s.2.1 i) ≤ 12
        · rw [Nat.ble_eq_true_of_le c12, cond_true] at h20 h21
          obtain ⟨g1, g2⟩ := gs_keep hm hn hN (show r < 4 by omega) hA
          have hg := g1.lt hA
          have h36 : 2 ^ (s.1.1 * s.1.2) ≤ 2 ^ 36 := Nat.pow_le_pow_right (by decide) hN
          have n7 : ¬ lg_cmp (ll (gsC s.1.1 s.1.2 r (gN s.2.1 i) (gN s.2.1 i + 1))) (-7000003 : Int64) = 0 := fun q => by
            rw [lc_r, show (-7000003 : Int64) = ll 18446744073702551613 from by decide +kernel, ll_eq (by omega) (by decide)] at q
            omega
          have h12 : ii (sz (gN s.2.1 i)) ≤ (12 : Int32) := (ii_le (b := 12) (by omega) (by decide)).mpr c12
          cases hk9 : kpC s.1.1 s.1.2 r (gN s.2.1 i) with
          | true =>
            have hkq := kp_q hR hi (show r < 4 by omega)
            rw [hk9] at hkq
            refine R2.ends (law_v2 (by omega) hkq h20 n7 h12 (el_q hR hi) (nt_0 hg hN g1) h21 (lc_r.mpr rfl) (lc_r.mpr (by rw [g2.mpr hk9])) rfl) ?_
            rw [ii_inc]
            exact ih (k + 12) (by omega) _ _ _
          | false =>
            have hkq := kp_q hR hi (show r < 4 by omega)
            rw [hk9] at hkq
            refine R2.ends (law_v3 (by omega) hkq h20 n7 h12 (el_q hR hi) (nt_0 hg hN g1) h21 (lc_r.mpr rfl) (fun q => ?_) rfl) ?_
            · rw [lc_r, ll_eq (set64 hg hN) (set64 hA hN), g2, hk9] at q
              cases q
            · rw [ii_inc]
              exact ih (k + 12) (by omega) _ _ _
        · rw [show Nat.ble (sz (gN s.2.1 i)) 12 = false from by rw [← Bool.not_eq_true, nble]; exact c12, cond_false] at h20
          refine R2.ends (law_v1 (by omega) (kp_q hR hi (show r < 4 by omega)) h20 (by decide) (fun q => c12 ((ii_le (b := 12) (by omega) (by decide)).mp q))) ?_
          rw [ii_inc]
          exact ih (k + 6) (by omega) _ _ _
      by_cases c : sz (gN s.2.1 i) < 8
      · exact R2.ends (law_u2 (by omega) hr4 ((ii_lt (b := 8) (by omega) (by decide)).mpr c)) (go _ _ _)
      · exact R2.ends (law_u3 (by omega) hr4 (fun q => c ((ii_lt (b := 8) (by omega) (by decide)).mp q)) (fun q => by have := (ii_le (b := 12) (by omega) (by decide)).mp q; omega)) (go _ _ _)
    · exact R2.ends (law_u1 (by omega) hr4 (fun q => c8 (Or.inl ((ii_lt (b := 8) (by omega) (by decide)).mp q))) ((ii_le (b := 12) (by omega) (by decide)).mpr (by omega))) (F s k ⟨M, hR⟩ (by omega) _ _ _ _ _ _ _ _ _ _ _ _)
theorem b_many {sc : Option (Nat × (Nat → Int32))} {s : HS} {t k : Nat} (hk : k ≤ 180000) {x w y z a b od : Int32} {a16 a17 : Option Value} : ∀ (d l c : Nat), sz l = d → l < 18446744073709551616 → R2 (D_L_law sc) (639, [some (.ref 30), some (.ref 0), some (.int (ii (s.1.1 * s.1.2))), some (.int (ii s.2.1.length)), some (.int (ii s.2.2.1.length)), some (.int (ii t)), some (.int x), some (.int w), some (.int y), some (.int z), some (.int a), some (.int b), some (.int od), some (.int (ii c)), some (.long (ll l)), none, a16, a17], [], s, k) (664, [some (.ref 30), some (.ref 0), some (.int (ii (s.1.1 * s.1.2))), some (.int (ii s.2.1.length)), some (.int (ii s.2.2.1.length)), some (.int (ii t)), some (.int x), some (.int w), some (.int y), some (.int z), some (.int a), some (.int b), some (.int od), some (.int (ii (c + d))), some (.int (0 : Int32)), none, a16, a17], [], s, k)
  | 0, l, c, h, hl => by
    have h0 := (sz_0 hl).mp h
    subst h0
    exact law_m2 (by omega) (by decide)
  | d + 1, l, c, h, hl => by
    have h0 : 0 < l := Nat.pos_of_ne_zero fun e => by
      rw [e, sz_zero] at h
      cases h
    obtain ⟨-, -, -, -, -, -, hz⟩ := low_set hl h0
    refine R2.tr (law_m1 (by omega) (fun q => by
      have := (lc_z hl).mp q
      omega)) ?_
    rw [ii_inc, show ll l &&& (ll l - (1 : Int64)) = ll (lwo l) from by unfold lwo; rw [show (1 : Int64) = ll 1 from rfl, ll_sub h0, ll_and], show c + (d + 1) = (c + 1) + d by omega]
    exact b_many hk d (lwo l) (c + 1) (by omega) (lwo_lt hl)
set_option maxHeartbeats 2000000 in
theorem b_count {sc : Option (Nat × (Nat → Int32))} {M : Mem} {s : HS} {t k : Nat} {i : Nat} (hR : Rel M s) (hi : i < s.2.1.length) (hk : k + 49 ≤ 180000) (F : Nxt sc 814 t (k + 49)) {x w y z b od : Int32} {a13 a14 a15 a16 a17 : Option Value} : Ends (D_L_law sc) (628, [some (.ref 30), some (.ref 0), some (.int (ii (s.1.1 * s.1.2))), some (.int (ii s.2.1.length)), some (.int (ii s.2.2.1.length)), some (.int (ii t)), some (.int x), some (.int w), some (.int y), some (.int z), some (.int (ii i)), some (.int b), some (.int od), a13, a14, a15, a16, a17], [], s, k) := by
  have hA := (hR.2.2.1.2.2.2 i hi).2.2.1
  have hN := hR.1.2.2.1
  refine R2.ends (law_m0 (by omega) (el_q hR hi)) ?_
  refine R2.ends (b_many (by omega) _ _ 0 rfl (set64 hA hN)) ?_
  rw [Nat.zero_add]
  exact b_rules hR hi hk F 4 0 (k + 1) rfl (by omega) _ _ _
theorem full_i {N : Nat} (h : N ≤ 36) : jshl (1 : Int64) (ii N) - (1 : Int64) = ll (2 ^ N - 1) := by
  rw [mbit_i (by omega), show (1 : Int64) = ll 1 from rfl, ll_sub (Nat.two_pow_pos N)]
theorem full_lt {N : Nat} (h : N ≤ 36) : 2 ^ N - 1 < 18446744073709551616 := set64 (Nat.sub_lt (Nat.two_pow_pos N) (by decide)) h
theorem sums_q {M : Mem} {s : HS} (hR : Rel M s) {i l : Nat} (hi : i < s.2.1.length) (h1 : 1 ≤ l) (h2 : l ≤ 100) : q_sums [.ref 0, .int (ii i), .int (ii l)] s = some (.inl (some (.long (ll (hsC s.1.1 s.1.2 (gN s.2.1 i) (l - 1))))), s) := by
  refine congrArg some ((onS_ok hR hi).trans ?_)
  rw [rg_ok h1 h2 (by decide)]
  rfl
set_option maxHeartbeats 2000000 in
theorem b_order {sc : Option (Nat × (Nat → Int32))} {M : Mem} {s : HS} {t k : Nat} {i : Nat} (hR : Rel M s) (hi : i < s.2.1.length) (hk : k + 60 ≤ 180000) (F : Nxt sc 814 t (k + 60)) {x w y z b : Int32} {a12 a13 a14 a15 a16 a17 : Option Value} : Ends (D_L_law sc) (533, [some (.ref 30), some (.ref 0), some (.int (ii (s.1.1 * s.1.2))), some (.int (ii s.2.1.length)), some (.int (ii s.2.2.1.length)), some (.int (ii t)), some (.int x), some (.int w), some (.int y), some (.int z), some (.int (ii i)), some (.int b), a12, a13, a14, a15, a16, a17], [], s, k) := by
  have hm := hR.1.1
  have hn := hR.1.2.1
  have hN := hR.1.2.2.1
  have hA := (hR.2.2.1.2.2.2 i hi).2.2.1
  have ho := odC_is hm hn hN hA
  refine R2.ends (law_a3 (by omega) (show q_order [.ref 0, .int (ii i)] s = some (.inl (some (.int (odC s.1.1 s.1.2 (gN s.2.1 i)))), s) from congrArg some (onS_ok hR hi))) ?_
  have hes : Sub (esC s.1.1 s.1.2 (gN s.2.1 i)) (gN s.2.1 i) := es_sub _ _ _
  have heq : q_essential [.ref 0, .int (ii i)] s = some (.inl (some (.long (ll (esC s.1.1 s.1.2 (gN s.2.1 i))))), s) := congrArg some (onS_ok hR hi)
  rcases ho with ⟨l, e, hl, hf, hb⟩ | ⟨e, -⟩
  · have hf' := hf
    rw [hsC_eq hm hn hA] at hf'
    have go : ∀ k', k' ≤ k + 5 → Ends (D_L_law sc) (588, [some (.ref 30), some (.ref 0), some (.int (ii (s.1.1 * s.1.2))), some (.int (ii s.2.1.length)), some (.int (ii s.2.2.1.length)), some (.int (ii t)), some (.int x), some (.int w), some (.int y), some (.int z), some (.int (ii i)), some (.int b), some (.int (ii (l + 1))), a13, a14, a15, a16, a17], [], s, k') := fun k' hk' => by
      refine R2.ends (law_o3 (by omega) heq (el_q hR hi) (nt_0 (hes.lt hA) hN hes) (ii_lt0 (by omega))) ?_
      exact b_count hR hi (by omega) (fun s k h1 h2 => F s k h1 (by omega))
    rw [e]
    have hq := sums_q hR hi (l := l + 1) (by omega) (by omega)
    rw [Nat.add_sub_cancel, hf'] at hq
    have hfull : lg_cmp (ll (2 ^ (s.1.1 * s.1.2) - 1)) (jshl (1 : Int64) (ii (s.1.1 * s.1.2)) - (1 : Int64)) = 0 := lc_r.mpr (full_i hN).symm
    by_cases c : l = 0
    · exact R2.ends (law_o1 (by omega) (ii_gt0 (by omega) (by omega)) hq hfull (by rw [c]; decide)) (go _ (by omega))
    · have hq2 := sums_q hR hi (l := l) (by omega) (by omega)
      have hne := hb (l - 1) (by omega)
      rw [hsC_eq hm hn hA] at hne
      have hlt : hsC s.1.1 s.1.2 (gN s.2.1 i) (l - 1) < 2 ^ (s.1.1 * s.1.2) := by
        rw [← hsC_eq hm hn hA]
        exact hs_lt hA _
      refine R2.ends (law_o2 (by omega) (ii_gt0 (by omega) (by omega)) hq hfull (fun q => by have := (ii_le (b := 1) (by omega) (by decide)).mp q; omega) (g2 := ll (hsC s.1.1 s.1.2 (gN s.2.1 i) (l - 1))) ?_ (fun q => hne ?_)) (go _ (by omega))
      · rw [show ii (l + 1) - (1 : Int32) = ii l from by rw [show (1 : Int32) = ii 1 from rfl, ii_sub (by omega), Nat.add_sub_cancel]]
        exact hq2
      · rw [lc_r, full_i hN, ll_eq (set64 hlt hN) (full_lt hN)] at q
        exact q
  · have hz := es_none e
    rw [hz] at heq
    rw [e]
    refine R2.ends (law_o0 (by omega) (by decide)) ?_
    refine R2.ends (law_o4 (by omega) heq (el_q hR hi) (nt_0 (Nat.two_pow_pos _) hN (Sub.zero _)) (by decide) (by decide)) ?_
    exact b_count hR hi (by omega) (fun s k h1 h2 => F s k h1 (by omega))
set_option maxHeartbeats 2000000 in
theorem b_ask {sc : Option (Nat × (Nat → Int32))} {M : Mem} {s : HS} {t k : Nat} (hR : Rel M s) (hk : k + 100 ≤ 180000) (F : Nxt sc 814 t (k + 100)) (hc : 0 < s.2.1.length) {x w : Int32} {Y Z : Nat} (hY : Y < 2147483648) (hZ : Z < 2147483648) : At4 sc 426 t x w (ii Y) (ii Z) s k := by
  intro a10 a11 a12 a13 a14 a15 a16 a17
  have hm := hR.1.1
  have hn := hR.1.2.1
  have hN := hR.1.2.2.1
  have hlen := hR.2.2.1.1
  refine R2.ends (law_a1 (by omega) (ii_ne0 hc (by omega))) ?_
  rw [rm_i hY (by omega), rm_i hZ (by omega)]
  obtain ⟨i, hi, ei⟩ : ∃ i, i < s.2.1.length ∧ Y % s.2.1.length = i := ⟨_, Nat.mod_lt Y hc, rfl⟩
  obtain ⟨j, hj, ej⟩ : ∃ j, j < s.2.1.length ∧ Z % s.2.1.length = j := ⟨_, Nat.mod_lt Z hc, rfl⟩
  rw [ei, ej]
  obtain ⟨hA, hA0⟩ := (hR.2.2.1.2.2.2 i hi).2.2
  obtain ⟨hB, hB0⟩ := (hR.2.2.1.2.2.2 j hj).2.2
  have q1 : q_energy [.ref 0, .int (ii i), .int (ii j)] s = some (.inl (some (.int (ii (enC s.1.1 s.1.2 (gN s.2.1 i) (gN s.2.1 j))))), s) := congrArg some ((onS_ok hR hi).trans (onS_ok hR hj))
  have q2 : q_energyAnew [.ref 0, .int (ii i), .int (ii j)] s = some (.inl (some (.int (ii (eaC s.1.1 s.1.2 (gN s.2.1 i) (gN s.2.1 j))))), s) := congrArg some ((onS_ok hR hi).trans (onS_ok hR hj))
  have q3 : q_excess [.ref 0, .int (ii i), .int (ii j)] s = some (.inl (some (.int (exC s.1.1 s.1.2 (gN s.2.1 i) (gN s.2.1 j)))), s) := congrArg some ((onS_ok hR hi).trans (onS_ok hR hj))
  have q4 : q_slack [.ref 0, .int (ii i), .int (ii j), .int (ii i)] s = some (.inl (some (.int (slC s.1.1 s.1.2 (gN s.2.1 i) (gN s.2.1 j) (gN s.2.1 i)))), s) := congrArg some ((onS_ok hR hi).trans ((onS_ok hR hj).trans (onS_ok hR hi)))
  have q5 : q_stabilizer [.ref 0, .int (ii i)] s = some (.inl (some (.long (ll (stbC s.1.1 s.1.2 (gN s.2.1 i))))), s) := congrArg some (onS_ok hR hi)
  have q6 : q_cover [.ref 0, .int (ii i), .int (ii j)] s = some (.inl (some (.long (ll (cvC s.1.1 s.1.2 (gN s.2.1 i) (gN s.2.1 j) (s.1.1 * s.1.2)).1))), s) := congrArg some ((onS_ok hR hi).trans (onS_ok hR hj))
  have hcs := (cv_ok s.1.1 s.1.2 (gN s.2.1 i) (gN s.2.1 j) (s.1.1 * s.1.2)).1
  have hcl := hcs.lt hA
  refine R2.ends (law_a2 (by omega) q1 q2 (by rw [en_eq hm hn hN hA hB]) q3 (ex_ok hm hn hN hA hB hA0 hB0) q4 (sl_ok hm hn hN hA hB) q5 (fun q => ?_) q6 (el_q hR hi) (nt_0 hcl hN hcs) (fun q => cv_0 hA hA0 ((lc_z (set64 hcl hN)).mp q))) ?_
  · have hs0 := stb_0 hm hn hA
    rw [show (1 : Int64) = ll 1 from rfl, ll_and, lc_z (Nat.lt_of_le_of_lt Nat.and_le_right (by decide))] at q
    have h9 : (stbC s.1.1 s.1.2 (gN s.2.1 i) &&& 1).testBit 0 = true := by rw [Nat.testBit_and, hs0]; rfl
    rw [q, Nat.zero_testBit] at h9
    cases h9
  · exact b_order hR hi (by omega) (fun s k h1 h2 => F s k h1 (by omega))
