/-! THE LAW'S TURN, whatever its call -/
def Tr (L : Nat) (xs : Nat → Int32) (x y : St) : Prop := ∃ (C1 C2 : Cfg) (z : St), LawC L xs C1 ∧ LawC L xs C2 ∧ Rto C1 x z ∧ Rto C2 z y
theorem turn {L : Nat} {xs : Nat → Int32} {i : Int32} {M : Mem} (h : Inv M) (hi : i ≤ Int32.ofNat L - (5 : Int32)) (i0 : inb i L = true) (i1 : inb (i + (1 : Int32)) L = true) (i2 : inb (i + (2 : Int32)) L = true) (i3 : inb (i + (3 : Int32)) L = true) (i4 : inb (i + (4 : Int32)) L = true) : ∃ (M' : Mem) (k : Nat), k ≤ 8 ∧ Inv M' ∧ Tr L xs (23, loL i, [], M, 0) (23, loL (i + (5 : Int32)), [], M', k) := by
  have h1 := hd_1 (xs := xs) (M := M) hi i0
  generalize xs (ix i) &&& (31 : Int32) = x at h1
  by_cases c0 : x = 0
  · obtain ⟨M', k, hk, hI, hr⟩ := cz_0 (L := L) (xs := xs) (i := i) h i1 i2
    exact ⟨M', k, hk, hI, _, _, _, lok_H L xs, lok_0 L xs, h1.trans (sw_0 c0), hr⟩
  by_cases c1 : x = 1
  · by_cases hz : xs (ix (i + (3 : Int32))) = 0
    · obtain ⟨M', k, hk, hI, hr⟩ := cz_1z (xs := xs) h i1 i2 i3 hz
      exact ⟨M', k, hk, hI, _, _, _, lok_H L xs, lok_1 L xs, h1.trans (sw_1 c1), hr⟩
    · obtain ⟨M', k, hk, hI, hr⟩ := cz_1o (xs := xs) h i1 i2 i3 hz
      exact ⟨M', k, hk, hI, _, _, _, lok_H L xs, lok_1 L xs, h1.trans (sw_1 c1), hr⟩
  by_cases c2 : x = 2
  · obtain ⟨M', k, hk, hI, hr⟩ := cz_2 (L := L) (xs := xs) (i := i) h i1 i2
    exact ⟨M', k, hk, hI, _, _, _, lok_H L xs, lok_2 L xs, h1.trans (sw_2 c2), hr⟩
  by_cases c3 : x = 3
  · obtain ⟨M', k, hk, hI, hr⟩ := cz_3 (L := L) (xs := xs) (i := i) h i1 i2 i3
    exact ⟨M', k, hk, hI, _, _, _, lok_H L xs, lok_3 L xs, h1.trans (sw_3 c3), hr⟩
  by_cases c4 : x = 4
  · obtain ⟨M', k, hk, hI, hr⟩ := cz_4 (L := L) (xs := xs) (i := i) h i1 i2 i3
    exact ⟨M', k, hk, hI, _, _, _, lok_H L xs, lok_4 L xs, h1.trans (sw_4 c4), hr⟩
  by_cases c5 : x = 5
  · obtain ⟨M', k, hk, hI, hr⟩ := cz_5 (L := L) (xs := xs) (i := i) h i1
    exact ⟨M', k, hk, hI, _, _, _, lok_H L xs, lok_5 L xs, h1.trans (sw_5 c5), hr⟩
  by_cases c6 : x = 6
  · obtain ⟨M', k, hk, hI, hr⟩ := cz_6 (L := L) (xs := xs) (i := i) h i1 i2 i3
    exact ⟨M', k, hk, hI, _, _, _, lok_H L xs, lok_6 L xs, h1.trans (sw_6 c6), hr⟩
  by_cases c7 : x = 7
  · obtain ⟨M', k, hk, hI, hr⟩ := cz_7 (L := L) (xs := xs) (i := i) h i1 i2 i3
    exact ⟨M', k, hk, hI, _, _, _, lok_H L xs, lok_7 L xs, h1.trans (sw_7 c7), hr⟩
  by_cases c8 : x = 8
  · obtain ⟨M', k, hk, hI, hr⟩ := cz_8 (L := L) (xs := xs) (i := i) h i1 i2
    exact ⟨M', k, hk, hI, _, _, _, lok_H L xs, lok_8 L xs, h1.trans (sw_8 c8), hr⟩
  by_cases c9 : x = 9
  · obtain ⟨M', k, hk, hI, hr⟩ := cz_9 (L := L) (xs := xs) (i := i) h i1 i2
    exact ⟨M', k, hk, hI, _, _, _, lok_H L xs, lok_9 L xs, h1.trans (sw_9 c9), hr⟩
  by_cases c10 : x = 10
  · obtain ⟨M', k, hk, hI, hr⟩ := cz_10 (L := L) (xs := xs) (i := i) h i1
    exact ⟨M', k, hk, hI, _, _, _, lok_H L xs, lok_10 L xs, h1.trans (sw_10 c10), hr⟩
  by_cases c11 : x = 11
  · obtain ⟨M', k, hk, hI, hr⟩ := cz_11 (L := L) (xs := xs) (i := i) h i1 i2
    exact ⟨M', k, hk, hI, _, _, _, lok_H L xs, lok_11 L xs, h1.trans (sw_11 c11), hr⟩
  by_cases c12 : x = 12
  · obtain ⟨M', k, hk, hI, hr⟩ := cz_12 (L := L) (xs := xs) (i := i) h i1 i2 i3
    exact ⟨M', k, hk, hI, _, _, _, lok_H L xs, lok_12 L xs, h1.trans (sw_12 c12), hr⟩
  by_cases c13 : x = 13
  · obtain ⟨M', k, hk, hI, hr⟩ := cz_13 (L := L) (xs := xs) (i := i) h i1 i2
    exact ⟨M', k, hk, hI, _, _, _, lok_H L xs, lok_13 L xs, h1.trans (sw_13 c13), hr⟩
  by_cases c14 : x = 14
  · obtain ⟨M', k, hk, hI, hr⟩ := cz_14 (L := L) (xs := xs) (i := i) h i1 i2
    exact ⟨M', k, hk, hI, _, _, _, lok_H L xs, lok_14 L xs, h1.trans (sw_14 c14), hr⟩
  by_cases c15 : x = 15
  · obtain ⟨M', k, hk, hI, hr⟩ := cz_15 (L := L) (xs := xs) (i := i) h i1
    exact ⟨M', k, hk, hI, _, _, _, lok_H L xs, lok_15 L xs, h1.trans (sw_15 c15), hr⟩
  by_cases c16 : x = 16
  · obtain ⟨M', k, hk, hI, hr⟩ := cz_16 (L := L) (xs := xs) (i := i) h i1
    exact ⟨M', k, hk, hI, _, _, _, lok_H L xs, lok_16 L xs, h1.trans (sw_16 c16), hr⟩
  by_cases c17 : x = 17
  · obtain ⟨M', k, hk, hI, hr⟩ := cz_17 (L := L) (xs := xs) (i := i) h i1 i2 i3 i4
    exact ⟨M', k, hk, hI, _, _, _, lok_H L xs, lok_17 L xs, h1.trans (sw_17 c17), hr⟩
  by_cases c18 : x = 18
  · obtain ⟨M', k, hk, hI, hr⟩ := cz_18 (L := L) (xs := xs) (i := i) h i1 i2 i3
    exact ⟨M', k, hk, hI, _, _, _, lok_H L xs, lok_18 L xs, h1.trans (sw_18 c18), hr⟩
  by_cases c19 : x = 19
  · obtain ⟨M', k, hk, hI, hr⟩ := cz_19 (L := L) (xs := xs) (i := i) h i1 i2
    exact ⟨M', k, hk, hI, _, _, _, lok_H L xs, lok_19 L xs, h1.trans (sw_19 c19), hr⟩
  by_cases c20 : x = 20
  · obtain ⟨M', k, hk, hI, hr⟩ := cz_20 (L := L) (xs := xs) (i := i) h i1 i2
    exact ⟨M', k, hk, hI, _, _, _, lok_H L xs, lok_20 L xs, h1.trans (sw_20 c20), hr⟩
  by_cases c21 : x = 21
  · obtain ⟨M', k, hk, hI, hr⟩ := cz_21 (L := L) (xs := xs) (i := i) h i1 i2
    exact ⟨M', k, hk, hI, _, _, _, lok_H L xs, lok_21 L xs, h1.trans (sw_21 c21), hr⟩
  by_cases c22 : x = 22
  · obtain ⟨M', k, hk, hI, hr⟩ := cz_22 (L := L) (xs := xs) (i := i) h i1 i2 i3
    exact ⟨M', k, hk, hI, _, _, _, lok_H L xs, lok_22 L xs, h1.trans (sw_22 c22), hr⟩
  by_cases c23 : x = 23
  · obtain ⟨M', k, hk, hI, hr⟩ := cz_23 (L := L) (xs := xs) (i := i) h i1
    exact ⟨M', k, hk, hI, _, _, _, lok_H L xs, lok_23 L xs, h1.trans (sw_23 c23), hr⟩
  by_cases c24 : x = 24
  · obtain ⟨M', k, hk, hI, hr⟩ := cz_24 (L := L) (xs := xs) (i := i) h 
    exact ⟨M', k, hk, hI, _, _, _, lok_H L xs, lok_24 L xs, h1.trans (sw_24 c24), hr⟩
  by_cases c25 : x = 25
  · obtain ⟨M', k, hk, hI, hr⟩ := cz_25 (L := L) (xs := xs) (i := i) h 
    exact ⟨M', k, hk, hI, _, _, _, lok_H L xs, lok_25 L xs, h1.trans (sw_25 c25), hr⟩
  by_cases c26 : x = 26
  · obtain ⟨M', k, hk, hI, hr⟩ := cz_26 (L := L) (xs := xs) (i := i) h 
    exact ⟨M', k, hk, hI, _, _, _, lok_H L xs, lok_26 L xs, h1.trans (sw_26 c26), hr⟩
  by_cases c27 : x = 27
  · obtain ⟨M', k, hk, hI, hr⟩ := cz_27 (L := L) (xs := xs) (i := i) h i1 i2
    exact ⟨M', k, hk, hI, _, _, _, lok_H L xs, lok_27 L xs, h1.trans (sw_27 c27), hr⟩
  by_cases c28 : x = 28
  · obtain ⟨M', k, hk, hI, hr⟩ := cz_28 (L := L) (xs := xs) (i := i) h i1 i2
    exact ⟨M', k, hk, hI, _, _, _, lok_H L xs, lok_28 L xs, h1.trans (sw_28 c28), hr⟩
  by_cases c29 : x = 29
  · obtain ⟨M', k, hk, hI, hr⟩ := cz_29 (L := L) (xs := xs) (i := i) h i1 i2 i3
    exact ⟨M', k, hk, hI, _, _, _, lok_H L xs, lok_29 L xs, h1.trans (sw_29 c29), hr⟩
  by_cases c30 : x = 30
  · obtain ⟨M', k, hk, hI, hr⟩ := cz_30 (L := L) (xs := xs) (i := i) h i1
    exact ⟨M', k, hk, hI, _, _, _, lok_H L xs, lok_30 L xs, h1.trans (sw_30 c30), hr⟩
  exact ⟨M, 0, by decide, h, _, _, _, lok_H L xs, lok_H L xs, h1.trans (sw_d c0 c1 c2 c3 c4 c5 c6 c7 c8 c9 c10 c11 c12 c13 c14 c15 c16 c17 c18 c19 c20 c21 c22 c23 c24 c25 c26 c27 c28 c29 c30), hd_4⟩
