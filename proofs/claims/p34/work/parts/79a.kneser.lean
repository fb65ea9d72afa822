/-! KNESER'S THEOREM (by convergents), for a finite commutative group on the numbers below N -/
noncomputable def cd (N : Nat) (A : Nat → Prop) : Nat := pc (fun i => @decide (A i) (Classical.propDecidable (A i))) N
theorem cd_dec {A : Nat → Prop} {i : Nat} : @decide (A i) (Classical.propDecidable (A i)) = true ↔ A i := @decide_eq_true_iff (A i) (Classical.propDecidable (A i))
theorem cd_mono {N : Nat} {A B : Nat → Prop} (h : ∀ i, i < N → A i → B i) : cd N A ≤ cd N B := pc_mono fun i hi hp => cd_dec.mpr (h i hi (cd_dec.mp hp))
theorem cd_congr {N : Nat} {A B : Nat → Prop} (h : ∀ i, i < N → (A i ↔ B i)) : cd N A = cd N B :=
  Nat.le_antisymm (cd_mono fun i hi => (h i hi).mp) (cd_mono fun i hi => (h i hi).mpr)
theorem cd_lt {N t : Nat} {A B : Nat → Prop} (ht : t < N) (hA : ¬ A t) (hB : B t) (h : ∀ i, i < N → A i → B i) : cd N A < cd N B :=
  pc_lt (t := t) ht (@decide_eq_false (A t) (Classical.propDecidable (A t)) hA) (cd_dec.mpr hB) fun i hi hp => cd_dec.mpr (h i hi (cd_dec.mp hp))
theorem cd_le (N : Nat) (A : Nat → Prop) : cd N A ≤ N := pc_le _ N
theorem cd_inj {N : Nat} {A B : Nat → Prop} (f : Nat → Nat) (h : ∀ i, i < N → A i → f i < N ∧ B (f i)) (hi : ∀ i j, i < N → j < N → A i → A j → f i = f j → i = j) : cd N A ≤ cd N B :=
  pc_inj f (fun i hi hp => ⟨(h i hi (cd_dec.mp hp)).1, cd_dec.mpr (h i hi (cd_dec.mp hp)).2⟩) fun i j h1 h2 h3 h4 => hi i j h1 h2 (cd_dec.mp h3) (cd_dec.mp h4)
theorem cd_t {N : Nat} {A : Nat → Prop} (h : A N) : cd (N + 1) A = cd N A + 1 := by
  show pc _ N + (if _ then 1 else 0) = _
  rw [if_pos (cd_dec.mpr h)]
  rfl
theorem cd_f {N : Nat} {A : Nat → Prop} (h : ¬ A N) : cd (N + 1) A = cd N A := by
  show pc _ N + (if _ then 1 else 0) = _
  rw [if_neg (fun z => h (cd_dec.mp z))]
  rfl
theorem cd_ui (A B : Nat → Prop) : ∀ N, cd N (fun i => A i ∨ B i) + cd N (fun i => A i ∧ B i) = cd N A + cd N B
  | 0 => rfl
  | N + 1 => by
    have ih := cd_ui A B N
    by_cases h1 : A N
    · by_cases h2 : B N
      · rw [cd_t (A := fun i => A i ∨ B i) (Or.inl h1), cd_t (A := fun i => A i ∧ B i) ⟨h1, h2⟩, cd_t h1, cd_t h2]; omega
      · rw [cd_t (A := fun i => A i ∨ B i) (Or.inl h1), cd_f (A := fun i => A i ∧ B i) (fun z => h2 z.2), cd_t h1, cd_f h2]; omega
    · by_cases h2 : B N
      · rw [cd_t (A := fun i => A i ∨ B i) (Or.inr h2), cd_f (A := fun i => A i ∧ B i) (fun z => h1 z.1), cd_f h1, cd_t h2]; omega
      · rw [cd_f (A := fun i => A i ∨ B i) (fun z => z.elim h1 h2), cd_f (A := fun i => A i ∧ B i) (fun z => h1 z.1), cd_f h1, cd_f h2]; omega
theorem cd_none {N : Nat} {A : Nat → Prop} (h : ∀ i, i < N → ¬ A i) : cd N A = 0 := pc_none fun i hi => @decide_eq_false (A i) (Classical.propDecidable (A i)) (h i hi)
theorem cd_or {N : Nat} {A B : Nat → Prop} (h : ∀ i, i < N → A i → B i → False) : cd N (fun i => A i ∨ B i) = cd N A + cd N B := by
  rw [← cd_ui, cd_none (A := fun i => A i ∧ B i) fun i hi z => h i hi z.1 z.2]
  rfl
theorem cd_or_le (N : Nat) (A B : Nat → Prop) : cd N (fun i => A i ∨ B i) ≤ cd N A + cd N B := by
  have := cd_ui A B N
  omega
theorem cd_ex {N : Nat} {A : Nat → Prop} (h : 0 < cd N A) : ∃ i, i < N ∧ A i := by
  apply Classical.byContradiction
  intro c
  rw [cd_none fun i hi z => c ⟨i, hi, z⟩] at h
  exact Nat.lt_irrefl 0 h
/-- a finite commutative group on the numbers below N -/
def KG (N : Nat) (f : Nat → Nat → Nat) (g : Nat → Nat) : Prop := 0 < N ∧ (∀ a b, f a b < N) ∧ (∀ a, g a < N) ∧ (∀ a b, f a b = f b a) ∧ (∀ a b c, f (f a b) c = f a (f b c)) ∧ (∀ a, a < N → f a 0 = a) ∧ ∀ a, f a (g a) = 0
def SS (N : Nat) (f : Nat → Nat → Nat) (A B : Nat → Prop) (e : Nat) : Prop := ∃ x y, x < N ∧ y < N ∧ A x ∧ B y ∧ f x y = e
def SB (N : Nat) (f : Nat → Nat → Nat) (C : Nat → Prop) (k : Nat) : Prop := ∀ x, x < N → (C x ↔ C (f x k))
def SG (N : Nat) (f : Nat → Nat → Nat) (g : Nat → Nat) (K : Nat → Prop) : Prop := K 0 ∧ (∀ x y, x < N → y < N → K x → K y → K (f x y)) ∧ ∀ x, x < N → K x → K (g x)
def PD (N : Nat) (f : Nat → Nat → Nat) (K C : Nat → Prop) : Prop := ∀ k, k < N → K k → SB N f C k
def CO (f : Nat → Nat → Nat) (g : Nat → Nat) (K : Nat → Prop) (a i : Nat) : Prop := K (f i (g a))
section Kz
variable {N : Nat} {f : Nat → Nat → Nat} {g : Nat → Nat}
theorem KG.lt (G : KG N f g) (a b : Nat) : f a b < N := G.2.1 a b
theorem KG.nl (G : KG N f g) (a : Nat) : g a < N := G.2.2.1 a
theorem KG.cm (G : KG N f g) (a b : Nat) : f a b = f b a := G.2.2.2.1 a b
theorem KG.as (G : KG N f g) (a b c : Nat) : f (f a b) c = f a (f b c) := G.2.2.2.2.1 a b c
theorem KG.z (G : KG N f g) {a : Nat} (h : a < N) : f a 0 = a := G.2.2.2.2.2.1 a h
theorem KG.n (G : KG N f g) (a : Nat) : f a (g a) = 0 := G.2.2.2.2.2.2 a
theorem KG.m (G : KG N f g) {x y : Nat} (hx : x < N) : f (f x (g y)) y = x := by rw [G.as, G.cm (g y), G.n, G.z hx]
theorem KG.m' (G : KG N f g) {x y : Nat} (hx : x < N) : f (f x y) (g y) = x := by rw [G.as, G.n, G.z hx]
theorem KG.c (G : KG N f g) {x y z : Nat} (hx : x < N) (hy : y < N) (h : f x z = f y z) : x = y := by rw [← G.m' hx (y := z), h, G.m' hy]
theorem KG.gg (G : KG N f g) {x : Nat} (hx : x < N) : g (g x) = x := G.c (z := g x) (G.nl _) hx (by rw [G.cm, G.n, G.n])
theorem KG.s4 (G : KG N f g) (x y z w : Nat) : f (f x y) (f z w) = f (f x z) (f y w) := by rw [G.as, G.as, ← G.as y, G.cm y z, G.as z]
theorem KG.zz (G : KG N f g) : f 0 0 = 0 := G.z G.1
theorem KG.gf (G : KG N f g) (x y : Nat) : g (f x y) = f (g x) (g y) := G.c (z := f x y) (G.nl _) (G.lt _ _) (by rw [G.cm, G.n, G.s4, G.cm (g x), G.cm (g y), G.n, G.n, G.zz])
theorem KG.g0 (G : KG N f g) : g 0 = 0 := by
  have := G.n 0
  rwa [G.cm, G.z (G.nl 0)] at this
/-! the stabilizer is a subgroup -/
theorem sb_sg (G : KG N f g) (C : Nat → Prop) : SG N f g (SB N f C) := by
  refine ⟨fun x hx => by rw [G.z hx], fun a b ha hb h1 h2 x hx => ?_, fun a ha h x hx => ?_⟩
  · rw [← G.as]
    exact (h1 x hx).trans (h2 _ (G.lt _ _))
  · have := h (f x (g a)) (G.lt _ _)
    rw [G.m hx] at this
    exact this.symm
theorem sb_congr (G : KG N f g) {C E : Nat → Prop} (h : ∀ i, i < N → (C i ↔ E i)) (k : Nat) : SB N f C k ↔ SB N f E k :=
  ⟨fun z x hx => (h x hx).symm.trans ((z x hx).trans (h _ (G.lt _ _))), fun z x hx => (h x hx).trans ((z x hx).trans (h _ (G.lt _ _)).symm)⟩
theorem ss_lt (G : KG N f g) {A B : Nat → Prop} {e : Nat} (h : SS N f A B e) : e < N := by
  obtain ⟨x, y, -, -, -, -, rfl⟩ := h
  exact G.lt _ _
theorem ss_mono {A B A' B' : Nat → Prop} (hA : ∀ i, i < N → A i → A' i) (hB : ∀ i, i < N → B i → B' i) {e : Nat} (h : SS N f A B e) : SS N f A' B' e := by
  obtain ⟨x, y, hx, hy, h1, h2, rfl⟩ := h
  exact ⟨x, y, hx, hy, hA x hx h1, hB y hy h2, rfl⟩
theorem ss_in (G : KG N f g) {A K : Nat → Prop} (hK : SG N f g K) {x : Nat} (hx : x < N) (h : A x) : SS N f A K x := ⟨x, 0, hx, G.1, h, hK.1, G.z hx⟩
/-- what is kept by K on one side -/
theorem ss_pd (G : KG N f g) {A B K : Nat → Prop} (hK : SG N f g K) (hA : PD N f K A) : PD N f K (SS N f A B) := by
  have key : ∀ k, k < N → K k → ∀ x, SS N f A B x → SS N f A B (f x k) := by
    rintro k hk h x ⟨a, b, ha, hb, h1, h2, rfl⟩
    exact ⟨f a k, b, G.lt _ _, hb, (hA k hk h a ha).mp h1, h2, by rw [G.as, G.cm k, ← G.as]⟩
  intro k hk h x hx
  refine ⟨key k hk h x, fun z => ?_⟩
  have := key (g k) (G.nl _) (hK.2.2 k hk h) _ z
  rwa [G.m' hx] at this
theorem sg_pd (G : KG N f g) {K : Nat → Prop} (hK : SG N f g K) : PD N f K K := fun k hk h x hx =>
  ⟨fun z => hK.2.1 x k hx hk z h, fun z => by
    have := hK.2.1 _ _ (G.lt x k) (G.nl k) z (hK.2.2 k hk h)
    rwa [G.m' hx] at this⟩
theorem ss_sym (G : KG N f g) {A B : Nat → Prop} (e : Nat) : SS N f A B e ↔ SS N f B A e :=
  ⟨fun ⟨x, y, hx, hy, h1, h2, h⟩ => ⟨y, x, hy, hx, h2, h1, by rw [G.cm]; exact h⟩, fun ⟨x, y, hx, hy, h1, h2, h⟩ => ⟨y, x, hy, hx, h2, h1, by rw [G.cm]; exact h⟩⟩
theorem pd_congr (G : KG N f g) {K C E : Nat → Prop} (h : ∀ i, i < N → (C i ↔ E i)) (hC : PD N f K C) : PD N f K E := fun k hk z => (sb_congr G h k).mp (hC k hk z)
theorem ss_pd' (G : KG N f g) {A K : Nat → Prop} (hK : SG N f g K) : PD N f K (SS N f A K) :=
  pd_congr G (fun i _ => ss_sym G i) (ss_pd G hK (sg_pd G hK))
theorem pd_ss (G : KG N f g) {C K : Nat → Prop} (hK : SG N f g K) (h : PD N f K C) (e : Nat) (he : e < N) : SS N f C K e ↔ C e :=
  ⟨fun ⟨x, y, hx, hy, h1, h2, h3⟩ => h3 ▸ (h y hy h2 x hx).mp h1, ss_in G hK he⟩
theorem pd_sub {K D C : Nat → Prop} (hD : ∀ k, k < N → D k → K k) (h : PD N f K C) : PD N f D C := fun k hk z => h k hk (hD k hk z)
/-- sets that are filled up by what leaves the sum as it is -/
theorem ss_fill (G : KG N f g) {A B : Nat → Prop} (e : Nat) : SS N f (SS N f A (SB N f (SS N f A B))) (SS N f B (SB N f (SS N f A B))) e ↔ SS N f A B e := by
  have hS := sb_sg G (SS N f A B)
  constructor
  · rintro ⟨x, y, -, -, ⟨a, k, ha, hk, h1, h2, rfl⟩, ⟨b, l, hb, hl, h3, h4, rfl⟩, rfl⟩
    rw [G.s4]
    have h5 : SS N f A B (f a b) := ⟨a, b, ha, hb, h1, h3, rfl⟩
    exact ((hS.2.1 k l hk hl h2 h4) _ (G.lt _ _)).mp h5
  · exact ss_mono (fun i hi => ss_in G hS hi) (fun i hi => ss_in G hS hi)
/-! cosets -/
theorem co_self (G : KG N f g) {K : Nat → Prop} (hK : SG N f g K) (a : Nat) : CO f g K a a := by
  show K _
  rw [G.n]
  exact hK.1
theorem co_dif (G : KG N f g) {K : Nat → Prop} (hK : SG N f g K) {s x y : Nat} (hs : s < N) (h1 : CO f g K s x) (h2 : CO f g K s y) : K (f y (g x)) := by
  have := hK.2.1 _ _ (G.lt y (g s)) (G.nl _) h2 (hK.2.2 _ (G.lt x (g s)) h1)
  rwa [G.gf, G.gg hs, G.as, G.cm (g s), G.m' (G.nl x)] at this
theorem co_pd (G : KG N f g) {K : Nat → Prop} (hK : SG N f g K) (s : Nat) : PD N f K (CO f g K s) := by
  intro k hk h x hx
  have := sg_pd G hK k hk h (f x (g s)) (G.lt _ _)
  rw [G.as, G.cm (g s), ← G.as] at this
  exact this
/-- all of a coset is alike for what is kept -/
theorem co_all (G : KG N f g) {K C : Nat → Prop} (hK : SG N f g K) (hC : PD N f K C) {s x y : Nat} (hs : s < N) (hx : x < N) (hy : y < N) (h1 : CO f g K s x) (h2 : CO f g K s y) (h : C x) : C y := by
  have := (hC _ (G.lt _ _) (co_dif G hK hs h1 h2) x hx).mp h
  rwa [G.cm, G.m hy] at this
theorem co_sum (G : KG N f g) {K : Nat → Prop} (hK : SG N f g K) {a b x y : Nat} (h1 : CO f g K a x) (h2 : CO f g K b y) : CO f g K (f a b) (f x y) := by
  show K _
  rw [G.gf, G.s4]
  exact hK.2.1 _ _ (G.lt _ _) (G.lt _ _) h1 h2
theorem co_cd (G : KG N f g) {K : Nat → Prop} (a : Nat) (ha : a < N) : cd N (CO f g K a) = cd N K := by
  apply Nat.le_antisymm
  · exact cd_inj (fun i => f i (g a)) (fun i hi h => ⟨G.lt _ _, h⟩) fun i j hi hj _ _ e => G.c hi hj e
  · refine cd_inj (fun i => f i a) (fun i hi h => ⟨G.lt _ _, ?_⟩) fun i j hi hj _ _ e => G.c hi hj e
    show K _
    rw [G.m' hi]
    exact h
theorem co_sub {K D : Nat → Prop} (G : KG N f g) (h : ∀ k, k < N → D k → K k) {a i : Nat} (z : CO f g D a i) : CO f g K a i := h _ (G.lt _ _) z
theorem ss_cd (G : KG N f g) {A B : Nat → Prop} {a : Nat} (ha : a < N) (h : A a) : cd N B ≤ cd N (SS N f A B) :=
  cd_inj (fun i => f i a) (fun i hi hb => ⟨G.lt _ _, a, i, ha, hi, h, hb, G.cm _ _⟩) fun i j hi hj _ _ e => G.c hi hj e
/-- what is moved into itself is moved onto itself -/
theorem mv_on (G : KG N f g) {B : Nat → Prop} {d : Nat} (h : ∀ b, b < N → B b → B (f b d)) : SB N f B d := by
  intro x hx
  refine ⟨h x hx, fun z => ?_⟩
  apply Classical.byContradiction
  intro c
  have h1 : cd N B ≤ cd N (fun i => B i ∧ i ≠ f x d) := cd_inj (fun i => f i d) (fun i hi hb => ⟨G.lt _ _, h i hi hb, fun e => c ((G.c hi hx e) ▸ hb)⟩) fun i j hi hj _ _ e => G.c hi hj e
  have h2 : cd N (fun i => B i ∧ i ≠ f x d) < cd N B := cd_lt (t := f x d) (G.lt _ _) (fun e => e.2 rfl) z fun i _ e => e.1
  omega
/-- the claim for a measure -/
def KzP (N : Nat) (f : Nat → Nat → Nat) (n : Nat) : Prop := ∀ A B H : Nat → Prop, cd N (SS N f A B) * (N + 1) + cd N A < n → (∃ x, x < N ∧ A x) → (∃ x, x < N ∧ B x) → (∀ k, k < N → (H k ↔ SB N f (SS N f A B) k)) → PD N f H A → PD N f H B → cd N A + cd N B ≤ cd N (SS N f A B) + cd N H
theorem kz_red (G : KG N f g) {n : Nat} (ih : KzP N f n) {A B : Nat → Prop} (hA : ∃ x, x < N ∧ A x) (hB : ∃ x, x < N ∧ B x) (hm : cd N (SS N f A B) * (N + 1) + cd N (SS N f A (SB N f (SS N f A B))) < n) :
    cd N (SS N f A (SB N f (SS N f A B))) + cd N (SS N f B (SB N f (SS N f A B))) ≤ cd N (SS N f A B) + cd N (SB N f (SS N f A B)) := by
  have hS := sb_sg G (SS N f A B)
  have e : cd N (SS N f (SS N f A (SB N f (SS N f A B))) (SS N f B (SB N f (SS N f A B)))) = cd N (SS N f A B) := cd_congr fun i _ => ss_fill G i
  have := ih (SS N f A (SB N f (SS N f A B))) (SS N f B (SB N f (SS N f A B))) (SB N f (SS N f A B)) (by rw [e]; exact hm)
    (hA.elim fun x hx => ⟨x, hx.1, ss_in G hS hx.1 hx.2⟩) (hB.elim fun x hx => ⟨x, hx.1, ss_in G hS hx.1 hx.2⟩)
    (fun k _ => (sb_congr G (fun i _ => ss_fill G i) k).symm) (ss_pd' G hS) (ss_pd' G hS)
  rwa [e] at this
/-- convergents -/
def CV (N : Nat) (f : Nat → Nat → Nat) (g : Nat → Nat) (A B H C K : Nat → Prop) : Prop := SG N f g K ∧ (∀ k, k < N → H k → K k) ∧ PD N f K C ∧ (∀ e, e < N → C e → SS N f A B e) ∧ (∃ e, e < N ∧ C e) ∧ cd N (fun i => A i ∧ B i) + cd N (SS N f (fun i => A i ∨ B i) K) ≤ cd N C + cd N K
theorem cv_min {A B H : Nat → Prop} : ∀ (n : Nat) (C K : Nat → Prop), CV N f g A B H C K → cd N K = n → ∃ C' K', CV N f g A B H C' K' ∧ ∀ C'' K'', CV N f g A B H C'' K'' → cd N K' ≤ cd N K'' := by
  intro n
  induction n using Nat.strongRecOn with
  | ind n ih =>
    intro C K h e
    by_cases c : ∃ C' K', CV N f g A B H C' K' ∧ cd N K' < n
    · obtain ⟨C', K', h1, h2⟩ := c
      exact ih _ h2 C' K' h1 rfl
    · refine ⟨C, K, h, fun C' K' h1 => ?_⟩
      apply Nat.le_of_not_lt
      intro z
      exact c ⟨C', K', h1, by omega⟩
/-- the first convergent -/
theorem cv_first (G : KG N f g) {n : Nat} (ih : KzP N f n) {A B H : Nat → Prop} (hm : cd N (SS N f A B) * (N + 1) + cd N A < n + 1) (hH : ∀ k, k < N → (H k ↔ SB N f (SS N f A B) k)) (hA : PD N f H A) (hB : PD N f H B)
    {a a' : Nat} (ha : a < N) (h1 : A a) (h2 : B a) (ha' : a' < N) (h3 : A a') (h4 : ¬ B a') :
    CV N f g A B H (SS N f (fun i => A i ∧ B i) (fun i => A i ∨ B i)) (SB N f (SS N f (fun i => A i ∧ B i) (fun i => A i ∨ B i))) := by
  have hS := sb_sg G (SS N f (fun i => A i ∧ B i) (fun i => A i ∨ B i))
  have hHS : SG N f g H := by
    have z := sb_sg G (SS N f A B)
    exact ⟨(hH 0 G.1).mpr z.1, fun x y hx hy p q => (hH _ (G.lt _ _)).mpr (z.2.1 x y hx hy ((hH x hx).mp p) ((hH y hy).mp q)), fun x hx p => (hH _ (G.nl _)).mpr (z.2.2 x hx ((hH x hx).mp p))⟩
  have hI : PD N f H (fun i => A i ∧ B i) := fun k hk h x hx => and_congr (hA k hk h x hx) (hB k hk h x hx)
  have hsub : ∀ e, e < N → SS N f (fun i => A i ∧ B i) (fun i => A i ∨ B i) e → SS N f A B e := by
    rintro e he ⟨x, y, hx, hy, p, q, rfl⟩
    rcases q with q | q
    · exact ⟨y, x, hy, hx, q, p.2, G.cm _ _⟩
    · exact ⟨x, y, hx, hy, p.1, q, rfl⟩
  have hHK : ∀ k, k < N → H k → SB N f (SS N f (fun i => A i ∧ B i) (fun i => A i ∨ B i)) k := ss_pd G hHS hI
  have hle : cd N (SS N f (fun i => A i ∧ B i) (fun i => A i ∨ B i)) ≤ cd N (SS N f A B) := cd_mono hsub
  have hred := kz_red G ih (A := fun i => A i ∧ B i) (B := fun i => A i ∨ B i) ⟨a, ha, h1, h2⟩ ⟨a, ha, Or.inl h1⟩ (by
    rcases Nat.lt_or_ge (cd N (SS N f (fun i => A i ∧ B i) (fun i => A i ∨ B i))) (cd N (SS N f A B)) with c | c
    · have l1 := cd_le N (SS N f (fun i => A i ∧ B i) (SB N f (SS N f (fun i => A i ∧ B i) (fun i => A i ∨ B i))))
      have l2 := Nat.mul_le_mul_right (N + 1) (show cd N (SS N f (fun i => A i ∧ B i) (fun i => A i ∨ B i)) + 1 ≤ cd N (SS N f A B) from c)
      rw [Nat.add_mul, Nat.one_mul] at l2
      omega
    · have heq : ∀ e, e < N → (SS N f (fun i => A i ∧ B i) (fun i => A i ∨ B i) e ↔ SS N f A B e) := fun e he => ⟨hsub e he, fun z => by
        apply Classical.byContradiction
        intro y
        have := cd_lt he y z hsub
        omega⟩
      have e1 : cd N (SS N f (fun i => A i ∧ B i) (SB N f (SS N f (fun i => A i ∧ B i) (fun i => A i ∨ B i)))) = cd N (fun i => A i ∧ B i) := cd_congr fun e he => by
        refine pd_ss G hS (pd_sub (K := H) (fun k hk z => (hH k hk).mpr ((sb_congr G heq k).mp z)) hI) e he
      have e2 : cd N (fun i => A i ∧ B i) < cd N A := cd_lt ha' (fun z => h4 z.2) h3 fun i _ z => z.1
      have e3 := Nat.le_antisymm hle c
      rw [e1, e3]
      omega)
  refine ⟨hS, hHK, fun k hk h => h, hsub, ⟨f a a, G.lt _ _, a, a, ha, ha, ⟨h1, h2⟩, Or.inl h1, rfl⟩, ?_⟩
  have := cd_mono (A := fun i => A i ∧ B i) (B := SS N f (fun i => A i ∧ B i) (SB N f (SS N f (fun i => A i ∧ B i) (fun i => A i ∨ B i)))) (N := N) fun i hi z => ss_in G hS hi z
  omega
end Kz
