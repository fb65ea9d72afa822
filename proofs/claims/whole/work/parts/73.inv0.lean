/-! WHAT THE CONSTRUCTORS LEAVE KEEPS THE INVARIANT -/
def MF (M : Mem) : Mem := (fun k j => match k with | 2 => M.1 2 j | 3 => M.1 3 j | 19 => (match j with | 0 => 1 | 1 => 1 | _ => 0) | _ => 0, fun k j => match k with | 2 => M.2 2 j | _ => 0)
theorem inv0 {M : Mem} (h : GI M 1 1) : Inv (MF M) := by
  obtain ⟨h1, h2, h3, h4, h5, h6, h7, h8, h9, h10⟩ := h
  refine ⟨1, 1, 0, fun _ => 0, 0, fun _ => 0, 0, 0, ⟨h1, h2, h3, h4, h5, h6, h7, h8, h9, h10⟩, ⟨h1, h2, h3, rfl, rfl⟩, ⟨by decide, rfl, rfl, fun i hi => absurd hi (Nat.not_lt_zero i)⟩, ⟨by decide, rfl, rfl, rfl, fun i hi => absurd hi (Nat.not_lt_zero i)⟩, ⟨rfl, rfl, by decide, fun z => absurd rfl z⟩⟩
