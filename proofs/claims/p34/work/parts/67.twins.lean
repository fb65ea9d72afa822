/-! COMPUTABLE TWINS of the words for sets: the law's written runs are run by them -/
def allB (p : Nat → Bool) : Nat → Bool
  | 0 => true
  | k + 1 => allB p k && p k
def anyB (p : Nat → Bool) : Nat → Bool
  | 0 => false
  | k + 1 => anyB p k || p k
theorem allB_iff {p : Nat → Bool} : ∀ {n : Nat}, allB p n = true ↔ ∀ i, i < n → p i = true
  | 0 => ⟨fun _ i h => absurd h (Nat.not_lt_zero i), fun _ => rfl⟩
  | k + 1 => by
    show (allB p k && p k) = true ↔ _
    rw [Bool.and_eq_true, allB_iff]
    constructor
    · rintro ⟨h1, h2⟩ i hi
      by_cases c : i = k
      · rw [c]; exact h2
      · exact h1 i (by omega)
    · exact fun h => ⟨fun i hi => h i (by omega), h k (by omega)⟩
theorem anyB_iff {p : Nat → Bool} : ∀ {n : Nat}, anyB p n = true ↔ ∃ i, i < n ∧ p i = true
  | 0 => ⟨fun h => (by cases h), fun ⟨i, h, _⟩ => absurd h (Nat.not_lt_zero i)⟩
  | k + 1 => by
    show (anyB p k || p k) = true ↔ _
    rw [Bool.or_eq_true, anyB_iff]
    constructor
    · rintro (⟨i, h1, h2⟩ | h)
      · exact ⟨i, by omega, h2⟩
      · exact ⟨k, by omega, h⟩
    · rintro ⟨i, h1, h2⟩
      by_cases c : i = k
      · exact Or.inr (by rw [← c]; exact h2)
      · exact Or.inl ⟨i, by omega, h2⟩
theorem nb {a b : Nat} : Nat.beq a b = true ↔ a = b := ⟨Nat.eq_of_beq_eq_true, fun h => by rw [h]; exact Nat.beq_refl b⟩
theorem nble {a b : Nat} : Nat.ble a b = true ↔ a ≤ b := ⟨Nat.le_of_ble_eq_true, Nat.ble_eq_true_of_le⟩
theorem st_ob {N : Nat} {P : Nat → Prop} {p : Nat → Bool} (h : ∀ i, i < N → (p i = true ↔ P i)) : st N P = ob p N :=
  (st_eq (ob_lt _ _) fun i hi => by rw [ob_bit, decide_eq_true hi, Bool.true_and]; exact h i hi).symm
section Twi
variable {m n : Nat}
def ngC (m n i : Nat) : Nat := n * ((m - i / n) % m) + (n - i % n) % n
theorem ngC_eq (hm : 0 < m) (hn : 0 < n) {b : Nat} (hb : b < m * n) : ng m n b = ngC m n b := by
  unfold ng ml ngC
  rw [rr_neg hm (Nat.le_of_lt (el_div hb)), rr_neg hn (Nat.le_of_lt (Nat.mod_lt _ hn))]
def mirC (m n b : Nat) : Nat := ob (fun i => b.testBit (ngC m n i)) (m * n)
theorem mirC_eq (hm : 0 < m) (hn : 0 < n) (b : Nat) : mir m n b = mirC m n b := st_ob fun i hi => by rw [ngC_eq hm hn hi]
def smF (m n a b : Nat) : Nat → Nat
  | 0 => 0
  | x + 1 => bif b.testBit x then smF m n a b x ||| shC m n a x else smF m n a b x
def smC (m n a b : Nat) : Nat := smF m n a b (m * n)
theorem smF_bit (hm : 0 < m) (hn : 0 < n) (a b i : Nat) : ∀ k, k ≤ m * n → ((smF m n a b k).testBit i = true ↔ ∃ x, x < k ∧ b.testBit x = true ∧ (shf m n a x).testBit i = true)
  | 0, _ => by
    show (0 : Nat).testBit i = true ↔ _
    rw [Nat.zero_testBit]
    exact ⟨fun h => (by cases h), fun ⟨x, h, _⟩ => absurd h (Nat.not_lt_zero x)⟩
  | k + 1, hk => by
    have ih := smF_bit hm hn a b i k (by omega)
    show (bif b.testBit k then smF m n a b k ||| shC m n a k else smF m n a b k).testBit i = true ↔ _
    cases hb : b.testBit k with
    | false =>
      rw [cond_false, ih]
      constructor
      · exact fun ⟨x, h1, h2⟩ => ⟨x, by omega, h2⟩
      · rintro ⟨x, h1, h2, h3⟩
        refine ⟨x, ?_, h2, h3⟩
        by_cases c : x = k
        · rw [c, hb] at h2; cases h2
        · omega
    | true =>
      rw [cond_true, Nat.testBit_or, Bool.or_eq_true, ih, ← shC_eq hm hn (show k < m * n by omega)]
      constructor
      · rintro (⟨x, h1, h2⟩ | h)
        · exact ⟨x, by omega, h2⟩
        · exact ⟨k, by omega, hb, h⟩
      · rintro ⟨x, h1, h2, h3⟩
        by_cases c : x = k
        · exact Or.inr (by rw [← c]; exact h3)
        · exact Or.inl ⟨x, by omega, h2, h3⟩
theorem smC_eq (hm : 0 < m) (hn : 0 < n) (a : Nat) {b : Nat} (hb : b < 2 ^ (m * n)) : smo m n a b = smC m n a b := by
  refine Nat.eq_of_testBit_eq fun i => Bool.eq_iff_iff.mpr ?_
  rw [smC, smF_bit hm hn a b i _ (Nat.le_refl _), smo, st_bit]
  constructor
  · rintro ⟨hi, x, h1, h2⟩
    exact ⟨x, tb_lt hb h1, h1, (shf_bit _ _ _).mpr ⟨hi, h2⟩⟩
  · rintro ⟨x, -, h1, h2⟩
    have := (shf_bit _ _ _).mp h2
    exact ⟨this.1, x, h1, this.2⟩
def wyC (m n a b e : Nat) : Nat := sz (a &&& shC m n (mirC m n b) e)
theorem wyC_eq (hm : 0 < m) (hn : 0 < n) (a b : Nat) {e : Nat} (he : e < m * n) : wy m n a b e = wyC m n a b e := by rw [wy, wyC, mirC_eq hm hn, shC_eq hm hn he]
def wdC (m n a e : Nat) : Nat := sz (a &&& shC m n a e)
theorem wdC_eq (hm : 0 < m) (hn : 0 < n) (a : Nat) {e : Nat} (he : e < m * n) : wd m n a e = wdC m n a e := by rw [wd, wdC, shC_eq hm hn he]
def enC (m n a b : Nat) : Nat := su (fun e => wyC m n a b e * wyC m n a b e) (m * n)
theorem enC_eq (hm : 0 < m) (hn : 0 < n) (a b : Nat) : su (fun e => wy m n a b e * wy m n a b e) (m * n) = enC m n a b := su_congr fun e he => by rw [wyC_eq hm hn a b he]
def eaC (m n a b : Nat) : Nat := su (fun e => wdC m n a e * wdC m n b e) (m * n)
theorem eaC_eq (hm : 0 < m) (hn : 0 < n) (a b : Nat) : su (fun e => wd m n a e * wd m n b e) (m * n) = eaC m n a b := su_congr fun e he => by rw [wdC_eq hm hn a he, wdC_eq hm hn b he]
def stbC (m n a : Nat) : Nat := ob (fun e => Nat.beq (shC m n a e) a) (m * n)
theorem stbC_eq (hm : 0 < m) (hn : 0 < n) (a : Nat) : stb m n a = stbC m n a := st_ob fun e he => by rw [nb, shC_eq hm hn he]
def popC (m n a b l : Nat) : Nat := ob (fun e => Nat.ble l (wyC m n a b e)) (m * n)
theorem popC_eq (hm : 0 < m) (hn : 0 < n) (a b l : Nat) : popS m n a b l = popC m n a b l := st_ob fun e he => by rw [nble, wyC_eq hm hn a b he]
def cvF (m n A B k : Nat) (t : Nat × Nat) : Nat × Nat := bif A.testBit k && Nat.beq (shC m n B k &&& t.2) 0 then (t.1 ||| 2 ^ k, t.2 ||| shC m n B k) else t
def cvC (m n A B : Nat) : Nat → Nat × Nat
  | 0 => (0, 0)
  | k + 1 => cvF m n A B k (cvC m n A B k)
theorem cvC_eq (hm : 0 < m) (hn : 0 < n) (A B : Nat) : ∀ k, k ≤ m * n → cvS m n A B k = cvC m n A B k
  | 0, _ => rfl
  | k + 1, hk => by
    have ih := cvC_eq hm hn A B k (by omega)
    show (if A.testBit k = true ∧ shf m n B k &&& (cvS m n A B k).2 = 0 then ((cvS m n A B k).1 ||| 2 ^ k, (cvS m n A B k).2 ||| shf m n B k) else cvS m n A B k) = cvF m n A B k (cvC m n A B k)
    rw [ih, shC_eq hm hn (show k < m * n by omega)]
    unfold cvF
    by_cases c : A.testBit k = true ∧ shC m n B k &&& (cvC m n A B k).2 = 0
    · rw [if_pos c, show (A.testBit k && Nat.beq (shC m n B k &&& (cvC m n A B k).2) 0) = true from by rw [Bool.and_eq_true, nb]; exact c, cond_true]
    · rw [if_neg c, show (A.testBit k && Nat.beq (shC m n B k &&& (cvC m n A B k).2) 0) = false from by rw [← Bool.not_eq_true, Bool.and_eq_true, nb]; exact c, cond_false]
def hsC (m n a : Nat) : Nat → Nat
  | 0 => a
  | k + 1 => smC m n (hsC m n a k) a
theorem hsC_eq (hm : 0 < m) (hn : 0 < n) {a : Nat} (ha : a < 2 ^ (m * n)) : ∀ k, hs m n a k = hsC m n a k
  | 0 => rfl
  | k + 1 => by
    show smo m n (hs m n a k) a = smC m n (hsC m n a k) a
    rw [hsC_eq hm hn ha k, smC_eq hm hn _ ha]
def odF (m n a : Nat) : Nat → Nat → Nat → Int32
  | 0, _, _ => -1
  | f + 1, k, cur => bif Nat.beq cur (2 ^ (m * n) - 1) then ii (k + 1) else odF m n a f (k + 1) (smC m n cur a)
def odC (m n a : Nat) : Int32 := odF m n a (m * n) 0 a
theorem odF_is (hm : 0 < m) (hn : 0 < n) (hN : m * n ≤ 36) {a : Nat} (ha : a < 2 ^ (m * n)) : ∀ f k cur, cur = hs m n a k → (∀ j, j < k → hs m n a j ≠ 2 ^ (m * n) - 1) → f + k = m * n → IsOrd m n a (odF m n a f k cur)
  | 0, k, cur, _, h, hf => Or.inr ⟨rfl, no_order hm hn hN ha (K := k) (by omega) h⟩
  | f + 1, k, cur, hc, h, hf => by
    show IsOrd m n a (bif Nat.beq cur (2 ^ (m * n) - 1) then ii (k + 1) else odF m n a f (k + 1) (smC m n cur a))
    by_cases c : cur = 2 ^ (m * n) - 1
    · rw [nb.mpr c, cond_true]
      exact Or.inl ⟨k, rfl, by omega, by rw [← hc]; exact c, h⟩
    · rw [show Nat.beq cur (2 ^ (m * n) - 1) = false from by rw [← Bool.not_eq_true, nb]; exact c, cond_false]
      refine odF_is hm hn hN ha f (k + 1) _ (by rw [← smC_eq hm hn cur ha, hc]; rfl) (fun j hj => ?_) (by omega)
      by_cases z : j = k
      · rw [z, ← hc]; exact c
      · exact h j (by omega)
theorem odC_is (hm : 0 < m) (hn : 0 < n) (hN : m * n ≤ 36) {a : Nat} (ha : a < 2 ^ (m * n)) : IsOrd m n a (odC m n a) := odF_is hm hn hN ha (m * n) 0 a rfl (fun j hj => absurd hj (Nat.not_lt_zero j)) (by omega)
def esC (m n a : Nat) : Nat := bif decide (odC m n a = -1) then 0 else ob (fun e => a.testBit e && decide (odC m n (a &&& (2 ^ e ^^^ (2 ^ 64 - 1))) = -1)) (m * n)
theorem esC_eq (hm : 0 < m) (hn : 0 < n) (hN : m * n ≤ 36) {a : Nat} (ha : a < 2 ^ (m * n)) : essS m n a = esC m n a := by
  have h0 := IsOrd.neg hN (odC_is hm hn hN ha)
  unfold esC
  by_cases c : odC m n a = -1
  · rw [decide_eq_true c, cond_true]
    exact st_false fun e _ z => z.2.1 (h0.mp c)
  · rw [decide_eq_false c, cond_false]
    refine st_ob fun e he => ?_
    rw [Bool.and_eq_true, decide_eq_true_eq, IsOrd.neg hN (odC_is hm hn hN (and_lt ha))]
    exact ⟨fun z => ⟨z.1, fun y => c (h0.mpr y), z.2⟩, fun z => ⟨z.1, z.2.2⟩⟩
def cbC (m n l x y : Nat) : Nat := match l with
  | 0 => smC m n x y
  | 1 => smC m n x (mirC m n y)
  | 2 => ob (fun i => anyB (fun z => y.testBit z && (x.testBit (n * ((i / n + (m - z / n)) % m) + (i % n + (n - z % n)) % n) && !(Nat.beq (n * ((i / n + (m - z / n)) % m) + (i % n + (n - z % n)) % n) z))) (m * n)) (m * n)
  | 3 => x &&& y
  | 4 => x ||| y
  | _ => x &&& (y ^^^ (2 ^ 64 - 1))
theorem cbC_eq (hm : 0 < m) (hn : 0 < n) (l x : Nat) {y : Nat} (hy : y < 2 ^ (m * n)) : comb m n l x y = cbC m n l x y := by
  unfold comb cbC
  match l with
  | 0 => exact smC_eq hm hn x hy
  | 1 =>
    show smo m n x (mir m n y) = smC m n x (mirC m n y)
    rw [smC_eq hm hn x (mir_lt y), mirC_eq hm hn]
  | 2 =>
    refine st_ob fun i hi => ?_
    rw [anyB_iff]
    refine exists_congr fun z => and_congr_right fun hz => ?_
    rw [← sb_n hm hn hz, Bool.and_eq_true, Bool.and_eq_true, Bool.not_eq_true', ← Bool.not_eq_true, nb]
  | 3 => rfl
  | 4 => rfl
  | k + 5 => rfl
def mvC (m n s : Nat) (t : Int) (e : Nat) : Nat := shC m n (ob (fun i => anyB (fun x => s.testBit x && Nat.beq (ml m n t x) i) (m * n)) (m * n)) e
theorem mvC_eq (hm : 0 < m) (hn : 0 < n) (s : Nat) (t : Int) {e : Nat} (he : e < m * n) : mvS m n s t e = mvC m n s t e := by
  unfold mvS mvC
  rw [shC_eq hm hn he]
  congr 1
  refine st_ob fun i hi => ?_
  rw [anyB_iff]
  refine exists_congr fun x => and_congr_right fun hx => ?_
  rw [Bool.and_eq_true, nb]
/-! rules -/
def freC (m n s : Nat) : Bool := allB (fun x => !(s.testBit x) || allB (fun y => !(s.testBit y) || !(s.testBit (ad m n y x))) (m * n)) (m * n)
theorem imp_b {a : Bool} {P : Prop} {b : Bool} (h : b = true ↔ P) : (!a || b) = true ↔ (a = true → P) := by
  rw [← h]
  cases a <;> simp
theorem freC_iff {s : Nat} (hs : s < 2 ^ (m * n)) : freC m n s = true ↔ Fre m n s := by
  unfold freC
  rw [allB_iff]
  constructor
  · intro h x y hx hy
    have h1 := (imp_b Iff.rfl).mp (h x (tb_lt hs hx)) hx
    have h2 := (imp_b Iff.rfl).mp (allB_iff.mp h1 y (tb_lt hs hy)) hy
    rwa [Bool.not_eq_true'] at h2
  · intro h x hx
    refine (imp_b Iff.rfl).mpr fun h1 => allB_iff.mpr fun y hy => (imp_b Iff.rfl).mpr fun h2 => ?_
    rw [Bool.not_eq_true']
    exact h x y h1 h2
def sidC (m n s : Nat) : Bool := allB (fun a => !(s.testBit a) || allB (fun b => !(s.testBit b) || allB (fun c => !(s.testBit c) || allB (fun d => !(s.testBit d) || (!(Nat.ble b a) || (!(Nat.ble d c) || (!(Nat.beq (ad m n a b) (ad m n c d)) || (Nat.beq a c && Nat.beq b d))))) (m * n)) (m * n)) (m * n)) (m * n)
theorem sidC_iff {s : Nat} (hs : s < 2 ^ (m * n)) : sidC m n s = true ↔ Sid m n s := by
  unfold sidC
  rw [allB_iff]
  constructor
  · intro h a b c d ha hb hc hd h1 h2 h3
    have g1 := (imp_b Iff.rfl).mp (h a (tb_lt hs ha)) ha
    have g2 := (imp_b Iff.rfl).mp (allB_iff.mp g1 b (tb_lt hs hb)) hb
    have g3 := (imp_b Iff.rfl).mp (allB_iff.mp g2 c (tb_lt hs hc)) hc
    have g4 := (imp_b Iff.rfl).mp (allB_iff.mp g3 d (tb_lt hs hd)) hd
    have g5 := (imp_b Iff.rfl).mp ((imp_b Iff.rfl).mp ((imp_b Iff.rfl).mp g4 (nble.mpr h1)) (nble.mpr h2)) (nb.mpr h3)
    rw [Bool.and_eq_true, nb, nb] at g5
    exact g5
  · intro h a _
    refine (imp_b Iff.rfl).mpr fun ha => allB_iff.mpr fun b _ => (imp_b Iff.rfl).mpr fun hb => allB_iff.mpr fun c _ => (imp_b Iff.rfl).mpr fun hc => allB_iff.mpr fun d _ => (imp_b Iff.rfl).mpr fun hd => (imp_b Iff.rfl).mpr fun h1 => (imp_b Iff.rfl).mpr fun h2 => (imp_b Iff.rfl).mpr fun h3 => ?_
    rw [Bool.and_eq_true, nb, nb]
    exact h a b c d ha hb hc hd (nble.mp h1) (nble.mp h2) (nb.mp h3)
def nstC (m n s : Nat) : Bool := allB (fun x => !(s.testBit x) || allB (fun z => !(s.testBit z) || allB (fun y => !(s.testBit y) || (!(Nat.ble (z + 1) x) || (Nat.beq y x || (Nat.beq y z || !(Nat.beq (ad m n x z) (ad m n y y)))))) (m * n)) (m * n)) (m * n)
theorem nstC_iff {s : Nat} (hs : s < 2 ^ (m * n)) : nstC m n s = true ↔ Nst m n s := by
  unfold nstC
  rw [allB_iff]
  constructor
  · intro h x z y hx hz hy h1 h2 h3
    have g1 := (imp_b Iff.rfl).mp (h x (tb_lt hs hx)) hx
    have g2 := (imp_b Iff.rfl).mp (allB_iff.mp g1 z (tb_lt hs hz)) hz
    have g3 := (imp_b Iff.rfl).mp (allB_iff.mp g2 y (tb_lt hs hy)) hy
    have g4 := (imp_b Iff.rfl).mp g3 (nble.mpr h1)
    simp only [Bool.or_eq_true, nb] at g4
    rcases g4 with g | g | g
    · exact absurd g h2
    · exact absurd g h3
    · rw [Bool.not_eq_true', ← Bool.not_eq_true, nb] at g
      exact g
  · intro h x _
    refine (imp_b Iff.rfl).mpr fun hx => allB_iff.mpr fun z _ => (imp_b Iff.rfl).mpr fun hz => allB_iff.mpr fun y _ => (imp_b Iff.rfl).mpr fun hy => (imp_b Iff.rfl).mpr fun h1 => ?_
    simp only [Bool.or_eq_true, nb]
    by_cases c : y = x
    · exact Or.inl c
    by_cases c2 : y = z
    · exact Or.inr (Or.inl c2)
    refine Or.inr (Or.inr ?_)
    rw [Bool.not_eq_true', ← Bool.not_eq_true, nb]
    exact h x z y hx hz hy (nble.mp h1) c c2
def apF (m n t k : Nat) : Nat := t ||| shC m n t k
def apC (m n s : Nat) : Nat → Nat
  | 0 => 1
  | k + 1 => bif s.testBit k then apF m n (apC m n s k) k else apC m n s k
theorem apC_eq (hm : 0 < m) (hn : 0 < n) (s : Nat) : ∀ k, k ≤ m * n → apA m n s k = apC m n s k
  | 0, _ => rfl
  | k + 1, hk => by
    have ih := apC_eq hm hn s k (by omega)
    show (if s.testBit k = true then apA m n s k ||| shf m n (apA m n s k) k else apA m n s k) = (bif s.testBit k then apF m n (apC m n s k) k else apC m n s k)
    rw [ih, shC_eq hm hn (show k < m * n by omega)]
    cases s.testBit k <;> rfl
def aptC (m n s : Nat) : Bool := allB (fun e => !(s.testBit e) || Nat.beq (apC m n s e &&& shC m n (apC m n s e) e) 0) (m * n)
theorem aptC_iff (hm : 0 < m) (hn : 0 < n) {s : Nat} (hs : s < 2 ^ (m * n)) : aptC m n s = true ↔ Apt m n s := by
  unfold aptC
  rw [allB_iff]
  constructor
  · intro h e he
    have hl := tb_lt hs he
    have h1 := nb.mp ((imp_b Iff.rfl).mp (h e hl) he)
    rwa [← shC_eq hm hn hl, ← apC_eq hm hn s e (by omega)] at h1
  · intro h e hl
    refine (imp_b Iff.rfl).mpr fun he => nb.mpr ?_
    rw [← shC_eq hm hn hl, ← apC_eq hm hn s e (by omega)]
    exact h e he
def kpC (m n r s : Nat) : Bool := match r with
  | 0 => freC m n s
  | 1 => sidC m n s
  | 2 => nstC m n s
  | _ => aptC m n s
theorem kpC_iff (hm : 0 < m) (hn : 0 < n) (r : Nat) {s : Nat} (hs : s < 2 ^ (m * n)) : kpC m n r s = true ↔ Keep m n r s := by
  unfold kpC Keep
  match r with
  | 0 => exact freC_iff hs
  | 1 => exact sidC_iff hs
  | 2 => exact nstC_iff hs
  | k + 3 => exact aptC_iff hm hn hs
def boI (b : Bool) : Int32 := bif b then 1 else 0
theorem boI_eq (hm : 0 < m) (hn : 0 < n) (r : Nat) {s : Nat} (hs : s < 2 ^ (m * n)) : bI (Keep m n r s) = boI (kpC m n r s) := by
  unfold boI
  by_cases c : Keep m n r s
  · rw [bI_t c, (kpC_iff hm hn r hs).mpr c]; rfl
  · rw [bI_f c, show kpC m n r s = false from by rw [← Bool.not_eq_true, kpC_iff hm hn r hs]; exact c]; rfl
/-! greatest subsets -/
def gsF (m n r S x b : Nat) : Nat := bif Nat.beq (x &&& S) x && (Nat.ble (sz b + 1) (sz x) && kpC m n r x) then x else b
def gsC (m n r S : Nat) : Nat → Nat
  | 0 => 0
  | x + 1 => gsF m n r S x (gsC m n r S x)
theorem sub_b {x S : Nat} : x &&& S = x ↔ Sub x S := by
  constructor
  · intro h i hi
    rw [← h, Nat.testBit_and, Bool.and_eq_true] at hi
    exact hi.2
  · intro h
    refine Nat.eq_of_testBit_eq fun i => ?_
    rw [Nat.testBit_and]
    cases c : x.testBit i with
    | false => rfl
    | true => rw [h i c]; rfl
theorem gsC_is (hm : 0 < m) (hn : 0 < n) {r S : Nat} (hr : r < 4) (hS : S < 2 ^ (m * n)) : ∀ x, BB m n r S x (gsC m n r S x)
  | 0 => BB.start hm hn
  | x + 1 => by
    have ih := gsC_is hm hn hr hS x
    show BB m n r S (x + 1) (gsF m n r S x (gsC m n r S x))
    unfold gsF
    by_cases c1 : Sub x S
    · have hx : x < 2 ^ (m * n) := c1.lt hS
      by_cases c2 : sz (gsC m n r S x) < sz x ∧ Keep m n r x
      · rw [nb.mpr (sub_b.mpr c1), nble.mpr c2.1, (kpC_iff hm hn r hx).mpr c2.2]
        exact BB.take ih c1 c2.2 c2.1
      · rw [show (Nat.ble (sz (gsC m n r S x) + 1) (sz x) && kpC m n r x) = false from by rw [← Bool.not_eq_true, Bool.and_eq_true, nble, kpC_iff hm hn r hx]; exact c2, Bool.and_false, cond_false]
        exact BB.leave ih c2
    · rw [show Nat.beq (x &&& S) x = false from by rw [← Bool.not_eq_true, nb, sub_b]; exact c1, Bool.false_and, cond_false]
      refine BB.skip (Nat.le_succ x) (fun u hu h1 h2 _ => c1 ?_) ih
      have : u = x := by omega
      rwa [this] at hu
end Twi
