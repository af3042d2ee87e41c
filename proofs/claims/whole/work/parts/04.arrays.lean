/-! arrays that hold a number's digits; arrays with a stretch written over -/
def rb_H (R : Nat) (a : Nat → Int32) (o n v : Nat) : Prop := ∀ i, i < n → a (o + i) = nI (rb_dg R v i)
def rb_ov (a : Nat → Int32) (o lo hi : Nat) (g : Nat → Int32) : Nat → Int32 := fun j => if o + lo ≤ j ∧ j < o + hi then g (j - o) else a j
/-- all but row t is as it was -/
def rb_K (t : Nat) (a b : Nat → Int32) : Prop := ∀ j, (j < 50 * t ∨ 50 * t + 50 ≤ j) → b j = a j
def rb_up (V : Nat → Nat) (i x : Nat) : Nat → Nat := fun r => if r = i then x else V r
theorem rb_upS (V : Nat → Nat) (i x : Nat) : rb_up V i x i = x := if_pos rfl
theorem rb_upN {V : Nat → Nat} {i x r : Nat} (h : r ≠ i) : rb_up V i x r = V r := if_neg h
theorem rb_ovE (a : Nat → Int32) (o lo : Nat) (g : Nat → Int32) : rb_ov a o lo lo g = a := by
  funext j
  exact if_neg (by omega)
theorem rb_ovI {a : Nat → Int32} {o lo hi k : Nat} {g : Nat → Int32} (h1 : lo ≤ k) (h2 : k < hi) : rb_ov a o lo hi g (o + k) = g k := by
  unfold rb_ov
  rw [if_pos (by omega), Nat.add_sub_cancel_left]
theorem rb_ovO {a : Nat → Int32} {o lo hi j : Nat} {g : Nat → Int32} (h : j < o + lo ∨ o + hi ≤ j) : rb_ov a o lo hi g j = a j := if_neg (by omega)
theorem rb_ovU {a : Nat → Int32} {o lo hi : Nat} {g : Nat → Int32} (h : lo ≤ hi) : upd (rb_ov a o lo hi g) (o + hi) (g hi) = rb_ov a o lo (hi + 1) g := by
  funext j
  show (if j = o + hi then g hi else rb_ov a o lo hi g j) = rb_ov a o lo (hi + 1) g j
  by_cases e : j = o + hi
  · subst e
    rw [if_pos rfl, rb_ovI h (Nat.lt_succ_self _)]
  · rw [if_neg e]
    unfold rb_ov
    by_cases c : o + lo ≤ j ∧ j < o + hi
    · rw [if_pos c, if_pos (by omega)]
    · rw [if_neg c, if_neg (by omega)]
theorem rb_ovD {a : Nat → Int32} {o lo hi : Nat} {g : Nat → Int32} (h : lo < hi) : upd (rb_ov a o (lo + 1) hi g) (o + lo) (g lo) = rb_ov a o lo hi g := by
  funext j
  show (if j = o + lo then g lo else rb_ov a o (lo + 1) hi g j) = rb_ov a o lo hi g j
  by_cases e : j = o + lo
  · subst e
    rw [if_pos rfl, rb_ovI (Nat.le_refl _) h]
  · rw [if_neg e]
    unfold rb_ov
    by_cases c : o + (lo + 1) ≤ j ∧ j < o + hi
    · rw [if_pos c, if_pos (by omega)]
    · rw [if_neg c, if_neg (by omega)]
/-- a store at the upper, at the lower end of the stretch -/
theorem rb_wu {a : Nat → Int32} {o lo i : Nat} {g : Nat → Int32} {x y : Int32} (hx : x = nI (o + i)) (hb : o + i < 2 ^ 31) (hy : y = g i) (h : lo ≤ i) : upd (rb_ov a o lo i g) x.toNatClampNeg y = rb_ov a o lo (i + 1) g := by
  rw [hx, nI_clamp hb, hy]
  exact rb_ovU h
theorem rb_wu0 {a : Nat → Int32} {lo i : Nat} {g : Nat → Int32} {x y : Int32} (hx : x = nI i) (hb : i < 2 ^ 31) (hy : y = g i) (h : lo ≤ i) : upd (rb_ov a 0 lo i g) x.toNatClampNeg y = rb_ov a 0 lo (i + 1) g :=
  rb_wu (o := 0) (by rw [Nat.zero_add]; exact hx) (by omega) hy h
theorem rb_wd {a : Nat → Int32} {o i hi : Nat} {g : Nat → Int32} {x y : Int32} (hx : x = nI (o + i)) (hb : o + i < 2 ^ 31) (hy : y = g i) (h : i < hi) : upd (rb_ov a o (i + 1) hi g) x.toNatClampNeg y = rb_ov a o i hi g := by
  rw [hx, nI_clamp hb, hy]
  exact rb_ovD h
theorem rb_wd0 {a : Nat → Int32} {i hi : Nat} {g : Nat → Int32} {x y : Int32} (hx : x = nI i) (hb : i < 2 ^ 31) (hy : y = g i) (h : i < hi) : upd (rb_ov a 0 (i + 1) hi g) x.toNatClampNeg y = rb_ov a 0 i hi g :=
  rb_wd (o := 0) (by rw [Nat.zero_add]; exact hx) (by omega) hy h
/-- a read -/
theorem rb_ci {x : Int32} {n : Nat} (hx : x = nI n) (h : n < 2 ^ 31) : x.toNatClampNeg = n := by
  rw [hx, nI_clamp h]
theorem rb_rd {a : Nat → Int32} {x : Int32} {n : Nat} (hx : x = nI n) (h : n < 2 ^ 31) : a x.toNatClampNeg = a n := by
  rw [hx, nI_clamp h]
theorem rb_rH {R : Nat} {a : Nat → Int32} {o n v i : Nat} {x : Int32} (H : rb_H R a o n v) (hi : i < n) (hx : x = nI (o + i)) (h : o + i < 2 ^ 31) : a x.toNatClampNeg = nI (rb_dg R v i) := by
  rw [rb_ci hx h, H i hi]
theorem rb_H0 {R : Nat} {a : Nat → Int32} {n v i : Nat} (H : rb_H R a 0 n v) (hi : i < n) : a i = nI (rb_dg R v i) := by
  have := H i hi
  rw [Nat.zero_add] at this
  exact this
theorem rb_H0i {R : Nat} {a : Nat → Int32} {n v : Nat} (h : ∀ i, i < n → a i = nI (rb_dg R v i)) : rb_H R a 0 n v := by
  intro i hi
  rw [Nat.zero_add]
  exact h i hi
theorem rb_rH0 {R : Nat} {a : Nat → Int32} {n v i : Nat} {x : Int32} (H : rb_H R a 0 n v) (hi : i < n) (hx : x = nI i) (h : i < 2 ^ 31) : a x.toNatClampNeg = nI (rb_dg R v i) := by
  rw [rb_ci hx h, rb_H0 H hi]
/-- what is read off the stretch is as it was -/
theorem rb_ovH {R : Nat} {a : Nat → Int32} {o lo hi o2 n v : Nat} {g : Nat → Int32} {i : Nat} (H : rb_H R a o2 n v) (hi2 : i < n) (h : o2 + i < o + lo ∨ o + hi ≤ o2 + i) : rb_ov a o lo hi g (o2 + i) = nI (rb_dg R v i) := by
  rw [rb_ovO h, H i hi2]
theorem rb_ovF {R : Nat} {a : Nat → Int32} {o n v : Nat} {g : Nat → Int32} (h : ∀ i, i < n → g i = nI (rb_dg R v i)) : rb_H R (rb_ov a o 0 n g) o n v := by
  intro i hi
  rw [rb_ovI (Nat.zero_le _) hi, h i hi]
theorem rb_ovK {a : Nat → Int32} {t lo hi : Nat} {g : Nat → Int32} (h : hi ≤ 50) : rb_K t a (rb_ov a (50 * t) lo hi g) := by
  intro j hj
  exact rb_ovO (by omega)
theorem rb_Kr (t : Nat) (a : Nat → Int32) : rb_K t a a := fun _ _ => rfl
theorem rb_Kt {t : Nat} {a b c : Nat → Int32} (h : rb_K t a b) (k : rb_K t b c) : rb_K t a c := by
  intro j hj
  rw [k j hj, h j hj]
theorem rb_KH {R t r n v : Nat} {a b : Nat → Int32} (k : rb_K t a b) (h : r ≠ t) (hn : n ≤ 50) (H : rb_H R a (50 * r) n v) : rb_H R b (50 * r) n v := by
  intro i hi
  rw [k (50 * r + i) (by omega), H i hi]
theorem rb_Ku {t i : Nat} {a : Nat → Int32} {x : Int32} (h : i < 50) : rb_K t a (upd a (50 * t + i) x) := by
  intro j hj
  exact if_neg (by omega)
theorem rb_Hm {R : Nat} {a : Nat → Int32} {o n m v : Nat} (H : rb_H R a o n v) (h : m ≤ n) : rb_H R a o m v := fun i hi => H i (by omega)
theorem rb_Hz {R : Nat} {a : Nat → Int32} {o n : Nat} (h : ∀ i, i < n → a (o + i) = 0) : rb_H R a o n 0 := by
  intro i hi
  rw [h i hi, rb_z]
  rfl
/-- the same digits: the number modulo R^m in m places -/
theorem rb_HM {R : Nat} (hR : 2 ≤ R) {a : Nat → Int32} {o n m v : Nat} (H : rb_H R a o n v) (h : m ≤ n) : rb_H R a o m (v % R ^ m) := by
  intro i hi
  rw [H i (by omega), rb_dgM hR v hi]
/-- beyond a number's length stand zeros -/
theorem rb_HX {R : Nat} (hR : 2 ≤ R) {a : Nat → Int32} {o n m v : Nat} (H : rb_H R a o n v) (hv : v < R ^ n) (h : ∀ i, n ≤ i → i < m → a (o + i) = 0) : rb_H R a o m v := by
  intro i hi
  by_cases c : i < n
  · exact H i c
  · rw [h i (by omega) hi, rb_hi hR hv (by omega)]
    rfl
/-! numbers of the machine -/
theorem rb_x50 (t i : Nat) : (50 : Int32) * nI t + nI i = nI (50 * t + i) := by
  rw [show (50 : Int32) = nI 50 from rfl, pk_mul, nI_add]
theorem rb_x24 (t i : Nat) : nI t * 24 + nI i = nI (24 * t + i) := by
  rw [show (24 : Int32) = nI 24 from rfl, pk_mul, nI_add, Nat.mul_comm]
theorem rb_a0 (s R : Nat) : nI s - 0 * nI R = nI s := by
  rw [Int32.zero_mul, Int32.sub_zero]
theorem rb_a1 {s R : Nat} (h : R ≤ s) : nI s - 1 * nI R = nI (s - R) := by
  rw [Int32.one_mul, pk_sub h]
theorem rb_cse {s c R d : Nat} (h : s = c * R + d) (hd : d < R) (hc : c ≤ 1) : (s < R → c = 0 ∧ d = s) ∧ (R ≤ s → c = 1 ∧ d = s - R) := by
  rcases Nat.le_one_iff_eq_zero_or_eq_one.mp hc with e | e
  · subst e
    rw [Nat.zero_mul, Nat.zero_add] at h
    omega
  · subst e
    rw [Nat.one_mul] at h
    omega
theorem rb_sn {a b c : Nat} (h : a < b + c) (hb : b + c < 2 ^ 30) : nI a - nI b - nI c < 0 := by
  rw [Int32.sub_sub, nI_add]
  exact pk_sneg hb h
theorem rb_s0 {a b c : Nat} (h : b + c ≤ a) : nI a - nI b - nI c = nI (a - (b + c)) := by
  rw [Int32.sub_sub, nI_add, pk_sub h]
theorem rb_s1 {a b c R : Nat} (h : b + c ≤ a + R) : nI a - nI b - nI c + 1 * nI R = nI (a + R - (b + c)) := by
  rw [Int32.one_mul, Int32.sub_sub, nI_add, Int32.sub_eq_add_neg, Int32.add_assoc, Int32.add_comm (-nI (b + c)), ← Int32.add_assoc, nI_add, ← Int32.sub_eq_add_neg, pk_sub h]
theorem rb_s2 {a b c R : Nat} (h : b + c ≤ a) : nI a - nI b - nI c + 0 * nI R = nI (a - (b + c)) := by
  rw [Int32.zero_mul, Int32.add_zero, rb_s0 h]
theorem rb_dgb {R : Nat} (hR : 2 ≤ R) (hR2 : R ≤ 36) (v i : Nat) : rb_dg R v i < 2 ^ 20 := by
  have := rb_lt hR v i
  omega
theorem rb_n0 {d : Nat} (h : d < 2 ^ 31) : nI d = 0 ↔ d = 0 := by
  rw [← nI_0]
  exact nI_eq h (by decide)
