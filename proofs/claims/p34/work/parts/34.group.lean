/-! THE GROUP of m and n, its elements the numbers below m times n -/
def ad (m n a b : Nat) : Nat := n * ((a / n + b / n) % m) + (a % n + b % n) % n
/-- some times an element -/
def ml (m n : Nat) (t : Int) (b : Nat) : Nat := n * rr (t * ((b / n : Nat) : Int)) m + rr (t * ((b % n : Nat) : Int)) n
def ng (m n b : Nat) : Nat := ml m n (-1) b
def sb (m n a b : Nat) : Nat := ad m n a (ng m n b)
section Grp
variable {m n : Nat}
theorem nm_lt {x y : Nat} (hx : x < m) (hy : y < n) : n * x + y < m * n := by
  have h1 : n * (x + 1) ≤ n * m := Nat.mul_le_mul_left n hx
  rw [Nat.mul_add, Nat.mul_one, Nat.mul_comm n m] at h1
  omega
theorem nm_div {x y : Nat} (hy : y < n) : (n * x + y) / n = x := by
  rw [Nat.mul_add_div (by omega), Nat.div_eq_of_lt hy, Nat.add_zero]
theorem nm_mod {x y : Nat} (hy : y < n) : (n * x + y) % n = y := by
  rw [Nat.mul_add_mod, Nat.mod_eq_of_lt hy]
theorem el_eq {a b : Nat} (h1 : a / n = b / n) (h2 : a % n = b % n) : a = b := by
  rw [← Nat.div_add_mod a n, ← Nat.div_add_mod b n, h1, h2]
theorem el_div {a : Nat} (h : a < m * n) : a / n < m := Nat.div_lt_of_lt_mul (by rw [Nat.mul_comm]; exact h)
theorem ad_lt (hm : 0 < m) (hn : 0 < n) (a b : Nat) : ad m n a b < m * n := nm_lt (Nat.mod_lt _ hm) (Nat.mod_lt _ hn)
theorem ad_div (hn : 0 < n) (a b : Nat) : ad m n a b / n = (a / n + b / n) % m := nm_div (Nat.mod_lt _ hn)
theorem ad_mod (hn : 0 < n) (a b : Nat) : ad m n a b % n = (a % n + b % n) % n := nm_mod (Nat.mod_lt _ hn)
theorem ml_lt (hm : 0 < m) (hn : 0 < n) (t : Int) (b : Nat) : ml m n t b < m * n := nm_lt (rr_lt _ hm) (rr_lt _ hn)
theorem ml_div (hn : 0 < n) (t : Int) (b : Nat) : ml m n t b / n = rr (t * ((b / n : Nat) : Int)) m := nm_div (rr_lt _ hn)
theorem ml_mod (hn : 0 < n) (t : Int) (b : Nat) : ml m n t b % n = rr (t * ((b % n : Nat) : Int)) n := nm_mod (rr_lt _ hn)
theorem ng_lt (hm : 0 < m) (hn : 0 < n) (b : Nat) : ng m n b < m * n := ml_lt hm hn _ b
theorem sb_lt (hm : 0 < m) (hn : 0 < n) (a b : Nat) : sb m n a b < m * n := ad_lt hm hn a _
theorem ad_comm (a b : Nat) : ad m n a b = ad m n b a := by
  unfold ad
  rw [Nat.add_comm (a / n), Nat.add_comm (a % n)]
theorem ad_assoc (hn : 0 < n) (a b c : Nat) : ad m n (ad m n a b) c = ad m n a (ad m n b c) := by
  refine el_eq (n := n) ?_ ?_
  · rw [ad_div hn, ad_div hn, ad_div hn, ad_div hn, Nat.mod_add_mod, Nat.add_mod_mod, Nat.add_assoc]
  · rw [ad_mod hn, ad_mod hn, ad_mod hn, ad_mod hn]
    simp only [Nat.mod_add_mod, Nat.add_mod_mod, Nat.add_assoc]
theorem ad_zero (hn : 0 < n) {a : Nat} (h : a < m * n) : ad m n a 0 = a := by
  refine el_eq (n := n) ?_ ?_
  · rw [ad_div hn, Nat.zero_div, Nat.add_zero, Nat.mod_eq_of_lt (el_div h)]
  · rw [ad_mod hn, Nat.zero_mod, Nat.add_zero, Nat.mod_mod]
theorem rr_add (a : Nat) (z : Int) {b : Nat} (hb : 0 < b) : rr ((a : Int) + z) b = (a + rr z b) % b := by
  apply Int.ofNat.inj
  show ((rr ((a : Int) + z) b : Nat) : Int) = (((a + rr z b) % b : Nat) : Int)
  rw [rr_z _ hb, Int.natCast_emod, Int.natCast_add, rr_z _ hb, Int.add_emod_emod]
theorem ad_ml (hm : 0 < m) (hn : 0 < n) (a : Nat) (t : Int) (b : Nat) : n * rr (((a / n : Nat) : Int) + t * ((b / n : Nat) : Int)) m + rr (((a % n : Nat) : Int) + t * ((b % n : Nat) : Int)) n = ad m n a (ml m n t b) := by
  rw [rr_add _ _ hm, rr_add _ _ hn]
  unfold ad
  rw [ml_div hn, ml_mod hn]
theorem ml_one (hn : 0 < n) {b : Nat} (h : b < m * n) : ml m n 1 b = b := by
  refine el_eq (n := n) ?_ ?_
  · rw [ml_div hn, Int.one_mul, rr_n, Nat.mod_eq_of_lt (el_div h)]
  · rw [ml_mod hn, Int.one_mul, rr_n, Nat.mod_mod]
theorem ad_ml_z (hm : 0 < m) (hn : 0 < n) (t : Int) (b : Nat) : ad m n b (ml m n t b) = ml m n (1 + t) b := by
  rw [← ad_ml hm hn]
  unfold ml
  rw [Int.add_mul, Int.add_mul, Int.one_mul, Int.one_mul]
theorem ml_zero (b : Nat) : ml m n 0 b = 0 := by
  unfold ml
  rw [Int.zero_mul, Int.zero_mul, show (0 : Int) = ((0 : Nat) : Int) from rfl, rr_n, rr_n, Nat.zero_mod, Nat.zero_mod, Nat.mul_zero]
theorem ad_ng (hm : 0 < m) (hn : 0 < n) (b : Nat) : ad m n b (ng m n b) = 0 := by
  unfold ng
  rw [ad_ml_z hm hn, show (1 : Int) + -1 = 0 from rfl, ml_zero]
theorem ml_two (hm : 0 < m) (hn : 0 < n) (b : Nat) (h : b < m * n) : ml m n 2 b = ad m n b b := by
  conv => rhs; rw [show b = ml m n 1 b from (ml_one hn h).symm]
  rw [show (2 : Int) = 1 + 1 from rfl, ← ad_ml_z hm hn, ml_one hn h]
theorem ad_zero' (hn : 0 < n) {a : Nat} (h : a < m * n) : ad m n 0 a = a := by
  rw [ad_comm, ad_zero hn h]
/-- what is added is found again -/
theorem sb_ad (hm : 0 < m) (hn : 0 < n) {x y : Nat} (hy : y < m * n) : sb m n (ad m n x y) x = y := by
  unfold sb
  rw [ad_comm x y, ad_assoc hn, ad_ng hm hn, ad_zero hn hy]
theorem ad_sb (hm : 0 < m) (hn : 0 < n) {x e : Nat} (he : e < m * n) : ad m n (sb m n e x) x = e := by
  unfold sb
  rw [ad_assoc hn, ad_comm (ng m n x), ad_ng hm hn, ad_zero hn he]
theorem ad_iff (hm : 0 < m) (hn : 0 < n) {x y e : Nat} (hy : y < m * n) (he : e < m * n) : ad m n x y = e ↔ y = sb m n e x :=
  ⟨fun h => by rw [← h, sb_ad hm hn hy], fun h => by rw [h, ad_comm, ad_sb hm hn he]⟩
theorem ad_iff' (hm : 0 < m) (hn : 0 < n) {x y e : Nat} (hx : x < m * n) (he : e < m * n) : ad m n x y = e ↔ x = sb m n e y := by
  rw [ad_comm]; exact ad_iff hm hn hx he
theorem ad_cancel (hm : 0 < m) (hn : 0 < n) {x y z : Nat} (hy : y < m * n) (hz : z < m * n) (h : ad m n x y = ad m n x z) : y = z := by
  rw [← sb_ad hm hn (x := x) hy, h, sb_ad hm hn hz]
theorem ad_cancel' (hm : 0 < m) (hn : 0 < n) {x y z : Nat} (hy : y < m * n) (hz : z < m * n) (h : ad m n y x = ad m n z x) : y = z := by
  rw [ad_comm y, ad_comm z] at h; exact ad_cancel hm hn hy hz h
theorem ng_ng (hm : 0 < m) (hn : 0 < n) {b : Nat} (h : b < m * n) : ng m n (ng m n b) = b := by
  apply ad_cancel hm hn (x := ng m n b) (ng_lt hm hn _) h
  rw [ad_ng hm hn, ad_comm, ad_ng hm hn]
theorem ng_zero (hm : 0 < m) (hn : 0 < n) : ng m n 0 = 0 := by
  have h0 : 0 < m * n := Nat.mul_pos hm hn
  have := ad_ng hm hn (m := m) (n := n) 0
  rwa [ad_zero' hn (ng_lt hm hn 0)] at this
theorem ng_ad (hm : 0 < m) (hn : 0 < n) (a b : Nat) : ng m n (ad m n a b) = ad m n (ng m n a) (ng m n b) := by
  apply ad_cancel hm hn (x := ad m n a b) (ng_lt hm hn _) (ad_lt hm hn _ _)
  rw [ad_ng hm hn, ad_assoc hn, ← ad_assoc hn b, ad_comm b, ad_assoc hn (ng m n a), ad_ng hm hn, ad_zero hn (ng_lt hm hn a), ad_ng hm hn]
theorem sb_iff (hm : 0 < m) (hn : 0 < n) {x y e : Nat} (hx : x < m * n) (he : e < m * n) : sb m n x y = e ↔ x = ad m n e y := by
  constructor
  · intro h
    rw [← h, ad_sb hm hn hx]
  · intro h
    rw [h, ad_comm, sb_ad hm hn he]
end Grp
