/-! THE LAW'S LOOP: turn after turn, and its end -/
/-- what is fixed while the law runs: the machine, its tables, the world's addresses, the script -/
def LCx (p : Program) (l : Launch) (s : State) (m : MethodId) (b : Nat) (meth : Method) (c : Code) (G : Gh) (L : Nat) (xs : Nat → Int32) : Prop :=
  (p.tables.exec = Jvm.exec ∧ c.code = code ∧ c.maxLocals = 8 ∧ s.vm.findClass RL = some m.cls ∧ ∀ w ∈ TB, w.before #[Value.ref b] s = true) ∧
  KW G s ∧ GhOK G csF s.heap.size ∧ l.stackTraces = false ∧ meth.locks = false ∧ meth.sig.returnType = some .boolean ∧ c.exceptionTable.toList = [] ∧ G.ad 30 = b ∧ va_X b L xs s s.heap ∧ b < s.heap.size ∧ G.lo = s.heap.size
/-- the end: 1 is answered -/
abbrev QL (below : List Frame) (G : Gh) (b : Nat) (s : State) (Mf : Mem) : State → Prop := vx_MQ below (QcW G csF (.inl (some (.int 1))) Mf s.heap.size) (XcW G csF (.inl (some (.int 1))) Mf s.heap.size) #[Value.ref b] s 601024 7293034 (AG G csF s.heap.size)
def LW (p : Program) (l : Launch) (e : Env) (s : State) (m : MethodId) (b : Nat) (below : List Frame) (meth : Method) (c : Code) (G : Gh) (Mf : Mem) (u v : Nat) (x : St) : Prop :=
  ∀ (H : Heap) (locs : List Loc) (ls : Array Slot), va_P G.D vwCl (wl G x.2.2.2.1 csF) H → va_S (AG G csF s.heap.size) s.heap H locs → x.2.1.length = 8 → lv_has ls 8 (lvl G x.2.1) → W p l e room_1 s m #[Value.ref b] below meth c H locs (u + x.2.2.2.2) (v + 6 * x.2.2.2.2) (QL below G b s Mf) (F0 m x.1 ls (x.2.2.1.map (cv G)))
theorem xs_same {b L L' : Nat} {xs xs' : Nat → Int32} {C : Cfg} {s : State} (h : va_X b L xs s s.heap) (h1 : C.scr = some (L, xs)) (h2 : C.scr = some (L', xs')) : va_X b L' xs' s s.heap := by
  rw [h1] at h2
  cases h2
  exact h
theorem LawC.go {p : Program} {l : Launch} {e : Env} {s : State} {m : MethodId} {b : Nat} {below : List Frame} {meth : Method} {c : Code} {G : Gh} {L : Nat} {xs : Nat → Int32} (hX : LCx p l s m b meth c G L xs) {C : Cfg} (hC : LawC L xs C) {u v : Nat} (hu : u + 8 ≤ 601024) (hv : v + 48 ≤ 7293034) (n : List (Nat ⊕ List Nat)) (x : St) (r : St ⊕ Ou) (Mf : Mem) (hr : runA C n x = some r)
    (hy : match r with | .inl y => LW p l e s m b below meth c G Mf u v y | .inr z => z.1 = .inl (some (.int 1)) ∧ z.2.1 = Mf) : LW p l e s m b below meth c G Mf u v x := by
  obtain ⟨⟨hx, hb, hml, hown, hts⟩, hKW, gok, hst, hlocks, hret, htab, had, hscr, hbs, hlo⟩ := hX
  obtain ⟨t0, cs, fl0, ca0, in0, lg0, ex0, hs0, scr0, ret0, cap0⟩ := C
  obtain ⟨hcfg, hcs, hhs, hsc, hre, hcap⟩ := hC
  have hcs : cs = csF := hcs
  have hhs : hs0 = [] := hhs
  have hre : ret0 = some .boolean := hre
  have hcap : cap0 = 8 := hcap
  subst hcs; subst hhs; subst hre; subst hcap
  have X : CxS p l room_1 s m #[Value.ref b] meth c G (t0, csF, fl0, ca0, in0, lg0, ex0, [], scr0, some .boolean, 8) 8 s.heap.size 8 DLAW (u, v, 601024, 7293034) code RL :=
    ⟨⟨hx, hb, hml, hown, hts⟩, hKW, gok, rfl, csF_nd, hst, hlocks, hret, rfl, hu, hv, Nat.le_of_ble_eq_true rfl, Nat.le_of_ble_eq_true rfl, ⟨hu, hv⟩, by rw [htab]; rfl⟩
  have hS : ScrOK (t0, csF, fl0, ca0, in0, lg0, ex0, [], scr0, some .boolean, 8) G (AG G csF s.heap.size) s := by
    intro L' xs' h2
    refine ⟨?_, ?_, ?_⟩
    · rw [had]; exact xs_same hscr hsc h2
    · rw [had]; exact hbs
    · rw [had]
      rintro (⟨k, hk, hk2⟩ | h)
      · have := gok.2.1 k hk
        rw [← hk2, hlo] at this
        exact absurd hbs (Nat.not_lt.mpr this)
      · exact absurd hbs (Nat.not_lt.mpr h)
  refine runA_ok (o0 := .inl (some (.int 1))) (M0 := Mf) (e := e) (below := below) X hcfg hS n x r hr ?_
  cases r with
  | inl y => exact hy
  | inr z => exact hy
theorem LawC.to {p : Program} {l : Launch} {e : Env} {s : State} {m : MethodId} {b : Nat} {below : List Frame} {meth : Method} {c : Code} {G : Gh} {L : Nat} {xs : Nat → Int32} (hX : LCx p l s m b meth c G L xs) {C : Cfg} (hC : LawC L xs C) {u v : Nat} (hu : u + 8 ≤ 601024) (hv : v + 48 ≤ 7293034) {x y : St} {Mf : Mem} (hr : Rto C x y) (hy : LW p l e s m b below meth c G Mf u v y) : LW p l e s m b below meth c G Mf u v x := by
  obtain ⟨n, hn⟩ := hr
  exact LawC.go hX hC hu hv n x (.inl y) Mf hn hy
theorem LawC.fin {p : Program} {l : Launch} {e : Env} {s : State} {m : MethodId} {b : Nat} {below : List Frame} {meth : Method} {c : Code} {G : Gh} {L : Nat} {xs : Nat → Int32} (hX : LCx p l s m b meth c G L xs) {C : Cfg} (hC : LawC L xs C) {u v : Nat} (hu : u + 8 ≤ 601024) (hv : v + 48 ≤ 7293034) {x : St} {Mf : Mem} (hr : Rend C x (.inl (some (.int 1))) Mf) : LW p l e s m b below meth c G Mf u v x := by
  obtain ⟨n, k, hn⟩ := hr
  exact LawC.go hX hC hu hv n x (.inr (.inl (some (.int 1)), Mf, k)) Mf hn ⟨rfl, rfl⟩
theorem LW.up {p : Program} {l : Launch} {e : Env} {s : State} {m : MethodId} {b : Nat} {below : List Frame} {meth : Method} {c : Code} {G : Gh} {Mf : Mem} {u v u2 v2 pc k : Nat} {lo : List (Option Value)} {st : List Value} {M : Mem} (h : LW p l e s m b below meth c G Mf u2 v2 (pc, lo, st, M, 0)) (hu : u + k ≤ u2) (hv : v + 6 * k ≤ v2) : LW p l e s m b below meth c G Mf u v (pc, lo, st, M, k) :=
  fun H locs ls hP hS hL hl => W.widen hu hv (h H locs ls hP hS hL hl)
theorem hd_le {t L : Nat} (hL : L ≤ 2560) (ht : t ≤ 2560) : ii t ≤ Int32.ofNat L - (5 : Int32) ↔ t + 5 ≤ L := by
  have e1 : Int32.ofNat L = zi (L : Int) := (zi_ii L).symm
  have e2 : (5 : Int32) = zi 5 := rfl
  rw [e1, e2, zi_sub, ← zi_ii, zi_le (by omega) (by omega) (by omega) (by omega)]
  omega
theorem law_loop {p : Program} {l : Launch} {e : Env} {s : State} {m : MethodId} {b : Nat} {below : List Frame} {meth : Method} {c : Code} {G : Gh} {L : Nat} {xs : Nat → Int32} (hX : LCx p l s m b meth c G L xs) (hL : L ≤ 2560) : ∀ (n t : Nat) (M : Mem), Inv M → 5 * t ≤ L → L < 5 * t + 5 * n → ∃ Mf, LW p l e s m b below meth c G Mf (30 + 8 * t) (8652 + 48 * t) (23, loL (ii (5 * t)), [], M, 0)
  | 0, t, M, hI, h1, h2 => absurd h2 (by omega)
  | n + 1, t, M, hI, h1, h2 => by
    by_cases h5 : 5 * t + 5 ≤ L
    · have ia : ∀ j : Nat, j ≤ 4 → inb (ii (5 * t) + ii j) L = true := fun j hj => by
        rw [ii_add]
        exact ii_inb (by omega) (by omega)
      obtain ⟨M', k, hk, hI', C1, C2, z, hC1, hC2, r1, r2⟩ := turn (L := L) (xs := xs) (i := ii (5 * t)) hI ((hd_le hL (by omega)).mpr h5) (ii_inb (by omega) (by omega)) (ia 1 (by decide)) (ia 2 (by decide)) (ia 3 (by decide)) (ia 4 (by decide))
      obtain ⟨Mf, hf⟩ := law_loop hX hL n (t + 1) M' hI' (by omega) (by omega)
      have e5 : ii (5 * t) + (5 : Int32) = ii (5 * (t + 1)) := by
        rw [show (5 : Int32) = ii 5 from rfl, ii_add]
        rfl
      rw [e5] at r2
      exact ⟨Mf, LawC.to hX hC1 (by omega) (by omega) r1 (LawC.to hX hC2 (by omega) (by omega) r2 (hf.up (by omega) (by omega)))⟩
    · exact ⟨M, LawC.fin hX (lok_H L xs) (by omega) (by omega) (hd_2 (fun z => h5 ((hd_le hL (by omega)).mp z)))⟩
