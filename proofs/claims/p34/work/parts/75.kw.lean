/-! ALL THAT THE MACHINE NEEDS, AT THE LAW'S ENTRY -/
theorem tb_q1 : Cond.laysStatic Bundle.tN "UNASSIGNED_STACK" Bundle.steD ∈ lw_tbl := by decide +kernel
theorem tb_q2 : Cond.laysStatic Bundle.tN "SUPPRESSED_SENTINEL" Bundle.listD ∈ lw_tbl := by decide +kernel
theorem tb_q3 : Cond.initialized Bundle.tN ∈ lw_tbl := by decide +kernel
theorem tb_str : ∀ e ∈ strL, Cond.stringRef e.1 e.2.1 e.2.2 ∈ lw_tbl := by decide +kernel
theorem kw0 {s : State} {b : Nat} (hts : ∀ w ∈ lw_tbl, w.before #[Value.ref b] s = true) (hg : (Jvm.Cond.and given_1 narrow_1).before #[Value.ref b] s = true) : ∃ (D : va_G) (cA : Nat → ClassId), ∀ ad, KW (D, cA, ad, s.heap.size) s := by
  obtain ⟨D, cA, hK⟩ := vk0 (fun w hw => hts w (TB_good hw).1)
  have hf := flat_of_before _ hg
  refine ⟨D, cA, fun ad => ⟨hK _ _, ?_, ?_, fun e he => ?_, nest0 hts, fun a ha b' hb hab => ?_, cast0 hts, decl0 hts⟩⟩
  · exact vx_Zqof (hts _ tb_q1) (hts _ tb_q3) (hf (.isRef (.static Bundle.tN "UNASSIGNED_STACK" Bundle.steD)) (by decide +kernel)) (fun a h z => absurd h (Nat.not_lt.mpr z))
  · exact vx_Zqof (hts _ tb_q2) (hts _ tb_q3) (hf (.isRef (.static Bundle.tN "SUPPRESSED_SENTINEL" Bundle.listD)) (by decide +kernel)) (fun a h z => absurd h (Nat.not_lt.mpr z))
  · have hm : ∀ e ∈ strL, Cond.exactly (.string e.1 e.2.1) "java/lang/String" ∈ flatC (Jvm.Cond.and given_1 narrow_1) := by decide +kernel
    obtain ⟨x, -, -, -, hx, -⟩ := Cond.exactly_spec (hf _ (hm e he))
    exact ⟨x, vk_R.of (hts _ (tb_str e he)) hx⟩
  · have hm : ∀ a ∈ excL, ∀ b ∈ excL, a ≠ b → Cond.not (.castable a b) ∈ flatC (Jvm.Cond.and given_1 narrow_1) := by decide +kernel
    exact va_Nc.of (hf _ (hm a ha b' hb hab))
