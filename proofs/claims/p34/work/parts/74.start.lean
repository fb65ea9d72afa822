/-! THE TABLES AT THE LAW'S ENTRY -/
theorem tb_m0 : Cond.instantiable RX0 1 ∈ TB := by decide +kernel
theorem tb_m1 : Cond.instantiable RX1 7 ∈ TB := by decide +kernel
theorem tb_m2 : Cond.instantiable RX2 10 ∈ TB := by decide +kernel
theorem tb_m3 : Cond.instantiable RX3 3 ∈ TB := by decide +kernel
theorem tb_m6 : Cond.instantiable RX6 3 ∈ TB := by decide +kernel
theorem tb_m7 : Cond.instantiable RX7 7 ∈ TB := by decide +kernel
theorem kn0 {s : State} {args : Array Value} (hts : ∀ w ∈ TB, w.before args s = true) : ∃ D : va_G, ∀ (c : Nat) (q : vw_C), vwCl[c]? = some q → u_Kn s q.1 q.2.1 q.2.2 (D.1 c) (D.2 c) := by
  obtain ⟨c0, i0, k0⟩ := u_known (C := RX0) (T := TX0) (N := 1) hts (cls_ok 0 _ rfl).1 (hts _ tb_m0)
  obtain ⟨c1, i1, k1⟩ := u_known (C := RX1) (T := TX1) (N := 7) hts (cls_ok 1 _ rfl).1 (hts _ tb_m1)
  obtain ⟨c2, i2, k2⟩ := u_known (C := RX2) (T := TX2) (N := 10) hts (cls_ok 2 _ rfl).1 (hts _ tb_m2)
  obtain ⟨c3, i3, k3⟩ := u_known (C := RX3) (T := TX3) (N := 3) hts (cls_ok 3 _ rfl).1 (hts _ tb_m3)
  obtain ⟨c4, i4, k4⟩ := u_known (C := RX6) (T := TX6) (N := 3) hts (cls_ok 4 _ rfl).1 (hts _ tb_m6)
  obtain ⟨c5, i5, k5⟩ := u_known (C := RX7) (T := TX7) (N := 7) hts (cls_ok 5 _ rfl).1 (hts _ tb_m7)
  refine ⟨(fun c => match c with | 0 => c0 | 1 => c1 | 2 => c2 | 3 => c3 | 4 => c4 | _ => c5, fun c => match c with | 0 => i0 | 1 => i1 | 2 => i2 | 3 => i3 | 4 => i4 | _ => i5), fun c q h => ?_⟩
  match c, h with
  | 0, h => cases h; exact k0
  | 1, h => cases h; exact k1
  | 2, h => cases h; exact k2
  | 3, h => cases h; exact k3
  | 4, h => cases h; exact k4
  | 5, h => cases h; exact k5
  | k + 6, h => simp [vwCl] at h
theorem ex0 {s : State} {args : Array Value} (hts : ∀ w ∈ lw_tbl, w.before args s = true) (h : ∀ a ∈ excL, ∀ b ∈ excL, a ≠ b → Cond.not (.castable a b) ∈ lw_tbl) : ∀ a ∈ excL, ∀ b ∈ excL, a ≠ b → va_Nc a b s := fun a ha b hb hab => va_Nc.of (hts _ (h a ha b hb hab))
theorem tb_nest : ∀ e ∈ nestL, Cond.methodLinkNest e.1 e.2.1 e.2.2.1 e.2.2.2 ∈ lw_tbl := by decide +kernel
theorem nest0 {s : State} {args : Array Value} (hts : ∀ w ∈ lw_tbl, w.before args s = true) : ∀ e ∈ nestL, va_Nw (.methodLinkNest e.1 e.2.1 e.2.2.1 e.2.2.2) s := fun e he => va_any rfl (hts _ (tb_nest e he))
theorem tb_cast : ∀ a ∈ excL, Cond.castable a a ∈ lw_tbl := by decide +kernel
theorem cast0 {s : State} {args : Array Value} (hts : ∀ w ∈ lw_tbl, w.before args s = true) : ∀ a ∈ excL, va_Nw (.castable a a) s := fun a ha => va_any rfl (hts _ (tb_cast a ha))
theorem tb_decl : ∀ a ∈ decL, Cond.declares a ∈ lw_tbl := by decide +kernel
theorem decl0 {s : State} {args : Array Value} (hts : ∀ w ∈ lw_tbl, w.before args s = true) : ∀ a ∈ decL, va_Nw (.declares a) s := fun a ha => va_any rfl (hts _ (tb_decl a ha))
theorem arr0 {s : State} {args : Array Value} (hts : ∀ w ∈ TB, w.before args s = true) : ∃ cA : Nat → ClassId, ∀ (k : Nat) (q : ClassId × FieldType), [(cA 0, FieldType.int), (cA 1, FieldType.long)][k]? = some q → ArrOfT s q.1 q.2 ∧ va_RA s q.1 q.2 := by
  obtain ⟨c0, k0, p0, a1, a2, a3⟩ := Cond.arrayClass_spec (hts _ tb_aI)
  obtain ⟨c1, k1, p1, b1, b2, b3⟩ := Cond.arrayClass_spec (hts _ tb_aJ)
  refine ⟨fun k => match k with | 0 => c0 | _ => c1, fun k q h => ?_⟩
  match k, h with
  | 0, h => cases h; exact ⟨fun n z => ⟨fun k h => (by cases h), k0, a2, p0, a3⟩, a1⟩
  | 1, h => cases h; exact ⟨fun n z => ⟨fun k h => (by cases h), k1, b2, p1, b3⟩, b1⟩
  | k + 2, h => simp at h
theorem vk0 {s : State} {args : Array Value} (hts : ∀ w ∈ TB, w.before args s = true) : ∃ (D : va_G) (cA : Nat → ClassId), ∀ ad lo, va_K D vwCl (arrT (D, cA, ad, lo)) s := by
  obtain ⟨D, hD⟩ := kn0 hts
  obtain ⟨cA, hA⟩ := arr0 hts
  exact ⟨D, cA, fun _ _ => ⟨hD, hA⟩⟩
