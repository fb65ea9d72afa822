/-! KNESER'S THEOREM, the step and the end -/
section Kz
variable {N : Nat} {f : Nat → Nat → Nat} {g : Nat → Nat}
/-- a set in one coset of K, of a smaller subgroup D, beside the convergent -/
theorem cv_no (G : KG N f g) {A B H C K E D : Nat → Prop} (hc : CV N f g A B H C K) (hmin : ∀ C'' K'', CV N f g A B H C'' K'' → cd N K ≤ cd N K'') {s : Nat} (hs : s < N) (hout : ∀ e, e < N → CO f g K s e → ¬ C e)
    (hE : ∀ e, e < N → E e → SS N f A B e) (hEs : ∀ e, e < N → E e → CO f g K s e) (hD : SG N f g D) (hHD : ∀ k, k < N → H k → D k) (hDK : ∀ k, k < N → D k → K k) (hED : PD N f D E) (hlt : cd N D < cd N K) :
    cd N E + cd N D + cd N (SS N f (fun i => A i ∨ B i) K) < cd N K + cd N (SS N f (fun i => A i ∨ B i) D) := by
  obtain ⟨h1, h2, h3, h4, ⟨e, he, h5⟩, h6⟩ := hc
  apply Nat.lt_of_not_le
  intro c
  have e1 : cd N (fun i => C i ∨ E i) = cd N C + cd N E := cd_or fun i hi p q => hout i hi (hEs i hi q) p
  have := hmin (fun i => C i ∨ E i) D ⟨hD, hHD, fun k hk z x hx => or_congr (h3 k hk (hDK k hk z) x hx) (hED k hk z x hx), fun i hi z => z.elim (h4 i hi) (hE i hi), ⟨e, he, Or.inl h5⟩, by omega⟩
  omega
/-- what a coset has beside the sums with D -/
theorem cv_hole (G : KG N f g) {A B K D : Nat → Prop} (hK : SG N f g K) (hD : SG N f g D) (hDK : ∀ k, k < N → D k → K k) {a : Nat} (ha : a < N) :
    cd N K ≤ cd N (fun i => CO f g K a i ∧ ¬ SS N f (fun i => A i ∨ B i) D i) + cd N (SS N f (fun i => A i ∧ CO f g K a i) D) + cd N (SS N f (fun i => B i ∧ CO f g K a i) D) := by
  rw [← co_cd G a ha (K := K)]
  have h1 : cd N (CO f g K a) ≤ cd N (fun i => (CO f g K a i ∧ ¬ SS N f (fun i => A i ∨ B i) D i) ∨ (SS N f (fun i => A i ∧ CO f g K a i) D i ∨ SS N f (fun i => B i ∧ CO f g K a i) D i)) := cd_mono fun i hi z => by
    by_cases c : SS N f (fun i => A i ∨ B i) D i
    · obtain ⟨x, d, hx, hd, p, q, rfl⟩ := c
      have hx2 : CO f g K a x := (co_pd G hK a d hd (hDK d hd q) x hx).mpr z
      exact Or.inr (p.elim (fun p => Or.inl ⟨x, d, hx, hd, ⟨p, hx2⟩, q, rfl⟩) (fun p => Or.inr ⟨x, d, hx, hd, ⟨p, hx2⟩, q, rfl⟩))
    · exact Or.inl ⟨z, c⟩
  have h2 := cd_or_le N (fun i => CO f g K a i ∧ ¬ SS N f (fun i => A i ∨ B i) D i) (fun i => SS N f (fun i => A i ∧ CO f g K a i) D i ∨ SS N f (fun i => B i ∧ CO f g K a i) D i)
  have h3 := cd_or_le N (SS N f (fun i => A i ∧ CO f g K a i) D) (SS N f (fun i => B i ∧ CO f g K a i) D)
  omega
theorem ss_co (G : KG N f g) {U K : Nat → Prop} {a i : Nat} (ha : a < N) (hi : i < N) (h : U a) (z : CO f g K a i) : SS N f U K i := ⟨a, f i (g a), ha, G.lt _ _, h, z, by rw [G.cm, G.m hi]⟩
theorem kz_core (G : KG N f g) {n : Nat} (ih : KzP N f n) {A B H : Nat → Prop} (hm : cd N (SS N f A B) * (N + 1) + cd N A < n + 1) (hH : ∀ k, k < N → (H k ↔ SB N f (SS N f A B) k)) (hA : PD N f H A) (hB : PD N f H B)
    {a a' : Nat} (ha : a < N) (h1 : A a) (h2 : B a) (ha' : a' < N) (h3 : A a') (h4 : ¬ B a') : cd N A + cd N B ≤ cd N (SS N f A B) + cd N H := by
  obtain ⟨C, K, hc, hmin⟩ := cv_min _ _ _ (cv_first G ih hm hH hA hB ha h1 h2 ha' h3 h4) rfl
  have hc' := hc
  obtain ⟨hK, hHK, hCK, hCS, ⟨e0, he0, hCe⟩, hcv⟩ := hc'
  have hui := cd_ui A B N
  by_cases c : ∀ k, k < N → K k → H k
  · have k1 : cd N K ≤ cd N H := cd_mono c
    have k2 : cd N C ≤ cd N (SS N f A B) := cd_mono hCS
    have k3 : cd N (fun i => A i ∨ B i) ≤ cd N (SS N f (fun i => A i ∨ B i) K) := cd_mono fun i hi => ss_in (A := fun i => A i ∨ B i) G hK hi
    omega
  -- a sum of which the coset is not among the sums
  have hex : ∃ x y k, x < N ∧ y < N ∧ k < N ∧ A x ∧ B y ∧ K k ∧ ¬ SS N f A B (f (f x y) k) := by
    apply Classical.byContradiction
    intro z
    refine c fun k hk hKk => (hH k hk).mpr fun e he => ⟨?_, ?_⟩
    · rintro ⟨x, y, hx, hy, p, q, rfl⟩
      apply Classical.byContradiction
      intro w
      exact z ⟨x, y, k, hx, hy, hk, p, q, hKk, w⟩
    · rintro ⟨x, y, hx, hy, p, q, r⟩
      apply Classical.byContradiction
      intro w
      refine z ⟨x, y, g k, hx, hy, G.nl k, p, q, hK.2.2 k hk hKk, ?_⟩
      rw [r, G.m' he]
      exact w
  exfalso
  clear ha h1 h2 ha' h3 h4 c
  obtain ⟨a, b, k1, ha, hb, hk1, hAa, hBb, hKk, hno⟩ := hex
  have hs : f a b < N := G.lt a b
  have hHS : SG N f g H := by
    have z := sb_sg G (SS N f A B)
    exact ⟨(hH 0 G.1).mpr z.1, fun x y hx hy p q => (hH _ (G.lt _ _)).mpr (z.2.1 x y hx hy ((hH x hx).mp p) ((hH y hy).mp q)), fun x hx p => (hH _ (G.nl _)).mpr (z.2.2 x hx ((hH x hx).mp p))⟩
  have hsk : CO f g K (f a b) (f (f a b) k1) := (co_pd G hK _ k1 hk1 hKk _ hs).mp (co_self G hK _)
  -- nothing kept by K, within the sums, meets the coset
  have hfar : ∀ E : Nat → Prop, PD N f K E → (∀ e, e < N → E e → SS N f A B e) → ∀ e, e < N → CO f g K (f a b) e → ¬ E e := fun E h5 h6 e he h7 h8 =>
    hno (h6 _ (G.lt _ _) (co_all G hK h5 hs he (G.lt _ _) h7 hsk h8))
  have hout := hfar C hCK hCS
  -- the two pairs of parts
  have pair : ∀ {A1 B1 : Nat → Prop}, (∃ x, x < N ∧ A1 x) → (∃ x, x < N ∧ B1 x) → PD N f H A1 → (∀ e, e < N → SS N f A1 B1 e → SS N f A B e) → (∀ e, e < N → SS N f A1 B1 e → CO f g K (f a b) e) →
      (∀ k, k < N → H k → SB N f (SS N f A1 B1) k) ∧ (∀ k, k < N → SB N f (SS N f A1 B1) k → K k) ∧ cd N (SB N f (SS N f A1 B1)) < cd N K ∧ cd N (SS N f A1 (SB N f (SS N f A1 B1))) + cd N (SS N f B1 (SB N f (SS N f A1 B1))) ≤ cd N (SS N f A1 B1) + cd N (SB N f (SS N f A1 B1)) := by
    intro A1 B1 hA1 hB1 hHA h5 h6
    obtain ⟨x, hx, hx1⟩ := hA1
    obtain ⟨y, hy, hy1⟩ := hB1
    have hin : SS N f A1 B1 (f x y) := ⟨x, y, hx, hy, hx1, hy1, rfl⟩
    have hS := sb_sg G (SS N f A1 B1)
    have hSK : ∀ k, k < N → SB N f (SS N f A1 B1) k → K k := fun k hk z => by
      have q1 := h6 _ (G.lt _ _) hin
      have q2 := h6 _ (G.lt _ _) ((z _ (G.lt _ _)).mp hin)
      have := co_dif G hK hs q1 q2
      rwa [G.cm (f x y) k, G.m' hk] at this
    have hlt : cd N (SB N f (SS N f A1 B1)) < cd N K := by
      apply Classical.byContradiction
      intro z
      have hall : ∀ k, k < N → K k → SB N f (SS N f A1 B1) k := fun k hk q => by
        apply Classical.byContradiction
        intro w
        exact z (cd_lt hk w q hSK)
      exact hfar _ hall h5 _ (G.lt _ _) (h6 _ (G.lt _ _) hin) hin
    have hsm : cd N (SS N f A1 B1) < cd N (SS N f A B) := cd_lt he0 (fun z => hout e0 he0 (h6 e0 he0 z) hCe) (hCS e0 he0 hCe) h5
    refine ⟨ss_pd G hHS hHA, hSK, hlt, kz_red G ih ⟨x, hx, hx1⟩ ⟨y, hy, hy1⟩ ?_⟩
    have l1 := cd_le N (SS N f A1 (SB N f (SS N f A1 B1)))
    have l2 := Nat.mul_le_mul_right (N + 1) (show cd N (SS N f A1 B1) + 1 ≤ cd N (SS N f A B) from hsm)
    rw [Nat.add_mul, Nat.one_mul] at l2
    omega
  have perA : ∀ s, PD N f H (fun i => A i ∧ CO f g K s i) := fun s k hk z x hx => and_congr (hA k hk z x hx) (co_pd G hK s k hk (hHK k hk z) x hx)
  have sub1 : ∀ e, e < N → SS N f (fun i => A i ∧ CO f g K a i) (fun i => B i ∧ CO f g K b i) e → SS N f A B e := fun e _ => ss_mono (fun _ _ z => z.1) (fun _ _ z => z.1)
  have sub2 : ∀ e, e < N → SS N f (fun i => A i ∧ CO f g K b i) (fun i => B i ∧ CO f g K a i) e → SS N f A B e := fun e _ => ss_mono (fun _ _ z => z.1) (fun _ _ z => z.1)
  have at1 : ∀ e, e < N → SS N f (fun i => A i ∧ CO f g K a i) (fun i => B i ∧ CO f g K b i) e → CO f g K (f a b) e := by
    rintro e - ⟨x, y, hx, hy, p, q, rfl⟩
    exact co_sum G hK p.2 q.2
  have at2 : ∀ e, e < N → SS N f (fun i => A i ∧ CO f g K b i) (fun i => B i ∧ CO f g K a i) e → CO f g K (f a b) e := by
    rintro e - ⟨x, y, hx, hy, p, q, rfl⟩
    rw [G.cm a b]
    exact co_sum G hK p.2 q.2
  obtain ⟨g1, g2, g3, g4⟩ := pair ⟨a, ha, hAa, co_self G hK a⟩ ⟨b, hb, hBb, co_self G hK b⟩ (perA a) sub1 at1
  -- the sums with K have the holes
  have hole1 : ∀ (s : Nat) (D : Nat → Prop), s < N → (A s ∨ B s) → (∀ k, k < N → D k → K k) → cd N (SS N f (fun i => A i ∨ B i) D) + cd N (fun i => CO f g K s i ∧ ¬ SS N f (fun i => A i ∨ B i) D i) ≤ cd N (SS N f (fun i => A i ∨ B i) K) := fun s D hs' hU hDK => by
    rw [← cd_or (fun i _ z w => w.2 z)]
    exact cd_mono fun i hi z => z.elim (ss_mono (fun _ _ q => q) hDK) (fun z => ss_co G hs' hi hU z.1)
  have S1 := sb_sg G (SS N f (fun i => A i ∧ CO f g K a i) (fun i => B i ∧ CO f g K b i))
  have n1 := cv_no G hc hmin hs hout sub1 at1 S1 g1 g2 (fun k _ z => z) g3
  by_cases cB : ¬ ∃ y, y < N ∧ B y ∧ CO f g K a y
  · have q1 := hole1 a _ ha (Or.inl hAa) g2
    have q2 := cv_hole G (A := A) (B := B) hK S1 g2 ha
    have q3 : cd N (SS N f (fun i => B i ∧ CO f g K a i) (SB N f (SS N f (fun i => A i ∧ CO f g K a i) (fun i => B i ∧ CO f g K b i)))) = 0 := cd_none fun i _ ⟨x, y, hx, _, p, _⟩ => cB ⟨x, hx, p⟩
    omega
  replace cB := Classical.not_not.mp cB
  by_cases cA : ¬ ∃ y, y < N ∧ A y ∧ CO f g K b y
  · have q1 := hole1 b _ hb (Or.inr hBb) g2
    have q2 := cv_hole G (A := A) (B := B) hK S1 g2 hb
    have q3 : cd N (SS N f (fun i => A i ∧ CO f g K b i) (SB N f (SS N f (fun i => A i ∧ CO f g K a i) (fun i => B i ∧ CO f g K b i)))) = 0 := cd_none fun i _ ⟨x, y, hx, _, p, _⟩ => cA ⟨x, hx, p⟩
    omega
  replace cA := Classical.not_not.mp cA
  by_cases cE : CO f g K a b
  · have q1 := hole1 a _ ha (Or.inl hAa) g2
    have q2 := cv_hole G (A := A) (B := B) hK S1 g2 ha
    have q3 : cd N (SS N f (fun i => B i ∧ CO f g K a i) (SB N f (SS N f (fun i => A i ∧ CO f g K a i) (fun i => B i ∧ CO f g K b i)))) ≤ cd N (SS N f (fun i => B i ∧ CO f g K b i) (SB N f (SS N f (fun i => A i ∧ CO f g K a i) (fun i => B i ∧ CO f g K b i)))) :=
      cd_mono fun e _ => ss_mono (fun i hi z => ⟨z.1, co_dif G hK ha cE z.2⟩) (fun _ _ z => z)
    omega
  obtain ⟨f1, f2, f3, f4⟩ := pair (cA.elim fun y z => ⟨y, z.1, z.2⟩) (cB.elim fun y z => ⟨y, z.1, z.2⟩) (perA b) sub2 at2
  have S2 := sb_sg G (SS N f (fun i => A i ∧ CO f g K b i) (fun i => B i ∧ CO f g K a i))
  generalize hK1 : SB N f (SS N f (fun i => A i ∧ CO f g K a i) (fun i => B i ∧ CO f g K b i)) = K1 at *
  generalize hK2 : SB N f (SS N f (fun i => A i ∧ CO f g K b i) (fun i => B i ∧ CO f g K a i)) = K2 at *
  have P1 : PD N f K1 (SS N f (fun i => A i ∧ CO f g K a i) (fun i => B i ∧ CO f g K b i)) := fun k _ z => by rw [hK1]; exact z
  have P2 : PD N f K2 (SS N f (fun i => A i ∧ CO f g K b i) (fun i => B i ∧ CO f g K a i)) := fun k _ z => by rw [hK2]; exact z
  generalize hE1 : SS N f (fun i => A i ∧ CO f g K a i) (fun i => B i ∧ CO f g K b i) = E1 at *
  generalize hE2 : SS N f (fun i => A i ∧ CO f g K b i) (fun i => B i ∧ CO f g K a i) = E2 at *
  have hDs : SG N f g (fun i => K1 i ∧ K2 i) := ⟨⟨S1.1, S2.1⟩, fun x y hx hy p q => ⟨S1.2.1 x y hx hy p.1 q.1, S2.2.1 x y hx hy p.2 q.2⟩, fun x hx p => ⟨S1.2.2 x hx p.1, S2.2.2 x hx p.2⟩⟩
  have hDK : ∀ k, k < N → (K1 k ∧ K2 k) → K k := fun k hk z => g2 k hk z.1
  have hDle : cd N (fun i => K1 i ∧ K2 i) ≤ cd N K1 := cd_mono fun i _ z => z.1
  have n3 := cv_no G hc hmin hs hout (E := fun i => E1 i ∨ E2 i) (D := fun i => K1 i ∧ K2 i) (fun e he z => z.elim (sub1 e he) (sub2 e he)) (fun e he z => z.elim (at1 e he) (at2 e he)) hDs (fun k hk z => ⟨g1 k hk z, f1 k hk z⟩) hDK
    (fun k hk z x hx => or_congr (P1 k hk z.1 x hx) (P2 k hk z.2 x hx)) (by omega)
  have h1 : cd N (SS N f (fun i => A i ∨ B i) (fun i => K1 i ∧ K2 i)) + (cd N (fun i => CO f g K a i ∧ ¬ SS N f (fun i => A i ∨ B i) (fun i => K1 i ∧ K2 i) i) + cd N (fun i => CO f g K b i ∧ ¬ SS N f (fun i => A i ∨ B i) (fun i => K1 i ∧ K2 i) i)) ≤ cd N (SS N f (fun i => A i ∨ B i) K) := by
    rw [← cd_or (A := fun i => CO f g K a i ∧ ¬ SS N f (fun i => A i ∨ B i) (fun i => K1 i ∧ K2 i) i) (B := fun i => CO f g K b i ∧ ¬ SS N f (fun i => A i ∨ B i) (fun i => K1 i ∧ K2 i) i) (fun i hi z w => cE ?_), ← cd_or (fun i _ z w => w.elim (fun w => w.2 z) (fun w => w.2 z))]
    · exact cd_mono fun i hi z => z.elim (ss_mono (fun _ _ q => q) hDK) (fun z => z.elim (fun z => ss_co G ha hi (Or.inl hAa) z.1) (fun z => ss_co G hb hi (Or.inr hBb) z.1))
    · refine co_all G hK (co_pd G hK a) hb hi hb w.1 (co_self G hK b) z.1
  have h2 := cv_hole G (A := A) (B := B) hK hDs hDK ha
  have h3 := cv_hole G (A := A) (B := B) hK hDs hDK hb
  have m1 : cd N (SS N f (fun i => A i ∧ CO f g K a i) (fun i => K1 i ∧ K2 i)) ≤ cd N (SS N f (fun i => A i ∧ CO f g K a i) K1) := cd_mono fun e _ => ss_mono (fun _ _ z => z) (fun _ _ z => z.1)
  have m2 : cd N (SS N f (fun i => B i ∧ CO f g K b i) (fun i => K1 i ∧ K2 i)) ≤ cd N (SS N f (fun i => B i ∧ CO f g K b i) K1) := cd_mono fun e _ => ss_mono (fun _ _ z => z) (fun _ _ z => z.1)
  have m3 : cd N (SS N f (fun i => A i ∧ CO f g K b i) (fun i => K1 i ∧ K2 i)) ≤ cd N (SS N f (fun i => A i ∧ CO f g K b i) K2) := cd_mono fun e _ => ss_mono (fun _ _ z => z) (fun _ _ z => z.2)
  have m4 : cd N (SS N f (fun i => B i ∧ CO f g K a i) (fun i => K1 i ∧ K2 i)) ≤ cd N (SS N f (fun i => B i ∧ CO f g K a i) K2) := cd_mono fun e _ => ss_mono (fun _ _ z => z) (fun _ _ z => z.2)
  have cut : ∀ E : Nat → Prop, (∀ e, e < N → E e → CO f g K (f a b) e) → cd N E + cd N (fun i => CO f g K (f a b) i ∧ ¬ E i) = cd N K := fun E z => by
    rw [← co_cd G (f a b) hs (K := K), ← cd_or (fun i _ p q => q.2 p)]
    exact cd_congr fun i hi => ⟨fun p => p.elim (z i hi) (fun p => p.1), fun p => (Classical.em (E i)).elim Or.inl (fun q => Or.inr ⟨p, q⟩)⟩
  have c1 := cut E1 at1
  have c2 := cut E2 at2
  have c3 := cut (fun i => E1 i ∨ E2 i) (fun e he z => z.elim (at1 e he) (at2 e he))
  obtain ⟨p, hp, hp1, hp2⟩ := cd_ex (N := N) (A := fun i => CO f g K (f a b) i ∧ ¬ (E1 i ∨ E2 i)) (by omega)
  have u1 := cd_ui (fun i => CO f g K (f a b) i ∧ ¬ E1 i) (fun i => CO f g K (f a b) i ∧ ¬ E2 i) N
  have u2 : cd N (fun i => (CO f g K (f a b) i ∧ ¬ E1 i) ∧ CO f g K (f a b) i ∧ ¬ E2 i) = cd N (fun i => CO f g K (f a b) i ∧ ¬ (E1 i ∨ E2 i)) := cd_congr fun i _ => ⟨fun z => ⟨z.1.1, fun w => w.elim z.1.2 z.2.2⟩, fun z => ⟨⟨z.1, fun w => z.2 (Or.inl w)⟩, z.1, fun w => z.2 (Or.inr w)⟩⟩
  have u3 := cd_ui (CO f g K1 p) (CO f g K2 p) N
  have u4 : cd N (fun i => CO f g K1 p i ∧ CO f g K2 p i) = cd N (fun i => K1 i ∧ K2 i) := co_cd G p hp (K := fun i => K1 i ∧ K2 i)
  have u5 : cd N (fun i => CO f g K1 p i ∨ CO f g K2 p i) ≤ cd N (fun i => (CO f g K (f a b) i ∧ ¬ E1 i) ∨ CO f g K (f a b) i ∧ ¬ E2 i) := cd_mono fun i hi z => by
    have key : ∀ {D E : Nat → Prop}, SG N f g D → (∀ k, k < N → D k → K k) → PD N f D E → ¬ E p → CO f g D p i → CO f g K (f a b) i ∧ ¬ E i := fun {D E} hD h5 h6 h7 h8 =>
      ⟨co_all G hD (pd_sub h5 (co_pd G hK (f a b))) hp hp hi (co_self G hD p) h8 hp1, fun w => h7 (co_all G hD h6 hp hi hp h8 (co_self G hD p) w)⟩
    exact z.elim (fun z => Or.inl (key S1 g2 P1 (fun w => hp2 (Or.inl w)) z)) (fun z => Or.inr (key S2 f2 P2 (fun w => hp2 (Or.inr w)) z))
  have u6 := co_cd G p hp (K := K1)
  have u7 := co_cd G p hp (K := K2)
  omega
theorem kz_all (G : KG N f g) : ∀ n, KzP N f n
  | 0 => fun _ _ _ h => absurd h (Nat.not_lt_zero _)
  | n + 1 => by
    have ih := kz_all G n
    rintro A B H hm ⟨a0, ha0, hA0⟩ ⟨b0, hb0, hB0⟩ hH hA hB
    by_cases c : ∀ x, x < N → A x → H (f x (g a0))
    · have k1 : cd N A ≤ cd N H := by
        rw [← co_cd G a0 ha0 (K := H)]
        exact cd_mono c
      have k2 := ss_cd G (A := A) (B := B) ha0 hA0
      omega
    · have hex : ∃ x, x < N ∧ A x ∧ ¬ H (f x (g a0)) := by
        apply Classical.byContradiction
        intro z
        exact c fun x hx p => Classical.byContradiction fun w => z ⟨x, hx, p, w⟩
      obtain ⟨a', ha', hA', hd⟩ := hex
      -- an element of B that leaves B, moved by the difference
      have hex2 : ∃ b, b < N ∧ B b ∧ ¬ B (f b (f a' (g a0))) := by
        apply Classical.byContradiction
        intro z
        have hon := mv_on G (B := B) (d := f a' (g a0)) fun b hb p => Classical.byContradiction fun w => z ⟨b, hb, p, w⟩
        refine hd ((hH _ (G.lt _ _)).mpr ?_)
        have hp : PD N f (SB N f B) (SS N f A B) := pd_congr G (fun i _ => ss_sym G i) (ss_pd G (sb_sg G B) fun k hk z => z)
        exact hp _ (G.lt _ _) hon
      obtain ⟨b, hb, hBb, hnb⟩ := hex2
      -- B moved
      have hc : f b (g a0) < N := G.lt _ _
      have e1 : cd N (fun i => B (f i (f b (g a0)))) = cd N B := by
        apply Nat.le_antisymm
        · exact cd_inj (fun i => f i (f b (g a0))) (fun i hi z => ⟨G.lt _ _, z⟩) fun i j hi hj _ _ e => G.c hi hj e
        · refine cd_inj (fun i => f i (g (f b (g a0)))) (fun i hi z => ⟨G.lt _ _, ?_⟩) fun i j hi hj _ _ e => G.c hi hj e
          show B _
          rw [G.m hi]
          exact z
      have e2 : ∀ e, e < N → (SS N f A (fun i => B (f i (f b (g a0)))) e ↔ SS N f A B (f e (f b (g a0)))) := fun e he => by
        constructor
        · rintro ⟨x, y, hx, hy, p, q, rfl⟩
          exact ⟨x, _, hx, G.lt _ _, p, q, (G.as _ _ _).symm⟩
        · rintro ⟨x, y, hx, hy, p, q, r⟩
          refine ⟨x, f y (g (f b (g a0))), hx, G.lt _ _, p, ?_, ?_⟩
          · show B _
            rw [G.m hy]
            exact q
          · rw [← G.as, r, G.m' he]
      have e3 : cd N (SS N f A (fun i => B (f i (f b (g a0))))) = cd N (SS N f A B) := by
        rw [cd_congr e2]
        apply Nat.le_antisymm
        · exact cd_inj (fun i => f i (f b (g a0))) (fun i hi z => ⟨G.lt _ _, z⟩) fun i j hi hj _ _ e => G.c hi hj e
        · refine cd_inj (fun i => f i (g (f b (g a0)))) (fun i hi z => ⟨G.lt _ _, ?_⟩) fun i j hi hj _ _ e => G.c hi hj e
          show SS N f A B _
          rw [G.m hi]
          exact z
      have mv : ∀ (E : Nat → Prop) (k : Nat), SB N f E k ↔ SB N f (fun i => E (f i (f b (g a0)))) k := fun E k => by
        constructor
        · intro z x hx
          have this : E (f x (f b (g a0))) ↔ E (f (f x (f b (g a0))) k) := z _ (G.lt x (f b (g a0)))
          have e : f (f x (f b (g a0))) k = f (f x k) (f b (g a0)) := by rw [G.as x, G.cm (f b (g a0)) k, ← G.as x]
          rw [e] at this
          exact this
        · intro z x hx
          have this : E (f (f x (g (f b (g a0)))) (f b (g a0))) ↔ E (f (f (f x (g (f b (g a0)))) k) (f b (g a0))) := z _ (G.lt x (g (f b (g a0))))
          have e : f (f x (g (f b (g a0)))) k = f (f x k) (g (f b (g a0))) := by rw [G.as x, G.cm (g (f b (g a0))) k, ← G.as x]
          rw [e, G.m (G.lt _ _), G.m hx] at this
          exact this
      have := kz_core G ih (A := A) (B := fun i => B (f i (f b (g a0)))) (H := H) (by rw [e3]; exact hm) (fun k hk => (hH k hk).trans ((mv _ k).trans (sb_congr G (fun i hi => (e2 i hi).symm) k))) hA (fun k hk z => (mv B k).mp (hB k hk z))
        (a := a0) (a' := a') ha0 hA0 (by rw [G.cm, G.m hb]; exact hBb) ha' hA' (fun z => hnb (by
          have e : f a' (f b (g a0)) = f b (f a' (g a0)) := by rw [← G.as, G.cm a' b, G.as]
          rwa [e] at z))
      rw [e1, e3] at this
      exact this
/-- how many sums there are at least -/
theorem kneser (G : KG N f g) {A B : Nat → Prop} (hA : ∃ x, x < N ∧ A x) (hB : ∃ x, x < N ∧ B x) :
    cd N (SS N f A (SB N f (SS N f A B))) + cd N (SS N f B (SB N f (SS N f A B))) ≤ cd N (SS N f A B) + cd N (SB N f (SS N f A B)) :=
  kz_red G (kz_all G _) hA hB (Nat.lt_succ_self _)
end Kz
