/-! the columns of a product while they are gathered -/
def rb_G (R v w i j : Nat) (p : Nat → Int32) : Prop := ∃ m : Nat → Nat, (∀ k, k < 48 → p k = nI (m k)) ∧ (∀ k, k < 48 → m k ≤ 1225 * (24 * i + j)) ∧ rb_cs R m 48 = v % R ^ i * w + rb_dg R v i * R ^ i * (w % R ^ j)
theorem rb_G0 {R v w : Nat} {p : Nat → Int32} (h : ∀ k, k < 48 → p k = 0) : rb_G R v w 0 0 p := by
  refine ⟨fun _ => 0, fun k hk => h k hk, fun k _ => Nat.zero_le _, ?_⟩
  rw [rb_cs0, Nat.pow_zero, Nat.mod_one, Nat.mod_one, Nat.zero_mul, Nat.mul_zero]
theorem rb_Gs {R v w i j : Nat} {p : Nat → Int32} (hR : 2 ≤ R) (hR2 : R ≤ 36) (hi : i < 24) (hj : j < 24) (h : rb_G R v w i j p) :
    rb_G R v w i (j + 1) (upd p (i + j) (p (i + j) + nI (rb_dg R v i) * nI (rb_dg R w j))) := by
  obtain ⟨m, h1, h2, h3⟩ := h
  have b := rb_dd hR hR2 v w i j
  refine ⟨fun k => if k = i + j then m k + rb_dg R v i * rb_dg R w j else m k, fun k hk => ?_, fun k hk => ?_, ?_⟩
  · show (if k = i + j then p (i + j) + nI (rb_dg R v i) * nI (rb_dg R w j) else p k) = nI (if k = i + j then m k + rb_dg R v i * rb_dg R w j else m k)
    by_cases e : k = i + j
    · rw [if_pos e, if_pos e, e, h1 (i + j) (by omega), pk_mul, nI_add]
    · rw [if_neg e, if_neg e, h1 k hk]
  · have := h2 k hk
    show (if k = i + j then m k + rb_dg R v i * rb_dg R w j else m k) ≤ 1225 * (24 * i + (j + 1))
    split <;> omega
  · rw [rb_csU, if_pos (by omega), rb_gs h3]
theorem rb_Ge {R v w i : Nat} {p : Nat → Int32} (hw : w < R ^ 24) (h : rb_G R v w i 24 p) : rb_G R v w (i + 1) 0 p := by
  obtain ⟨m, h1, h2, h3⟩ := h
  refine ⟨m, h1, fun k hk => ?_, ?_⟩
  · have := h2 k hk
    omega
  · rw [Nat.pow_zero, Nat.mod_one, Nat.mul_zero, Nat.add_zero]
    exact rb_ge hw h3
theorem rb_GE {R v w : Nat} {p : Nat → Int32} (hv : v < R ^ 24) (h : rb_G R v w 24 0 p) : ∃ m : Nat → Nat, (∀ k, k < 48 → p k = nI (m k)) ∧ (∀ k, k < 48 → m k ≤ 705600) ∧ rb_cs R m 48 = v * w := by
  obtain ⟨m, h1, h2, h3⟩ := h
  refine ⟨m, h1, fun k hk => ?_, ?_⟩
  · have := h2 k hk
    omega
  · rw [h3, Nat.pow_zero, Nat.mod_one, Nat.mul_zero, Nat.add_zero, Nat.mod_eq_of_lt hv]
/-- division by taking out: how often, and what is left -/
theorem rb_to {x w m : Nat} (hw : 0 < w) (hm : m < x / w) : w ≤ x - m * w ∧ x - m * w - w = x - (m + 1) * w := by
  have a : (m + 1) * w ≤ x := (Nat.le_div_iff_mul_le hw).mp hm
  rw [Nat.add_mul, Nat.one_mul] at a ⊢
  omega
theorem rb_tl {x w : Nat} (hw : 0 < w) : x - x / w * w = x % w := by
  have := Nat.div_add_mod' x w
  omega
/-- both bounds of the place that a division fills -/
theorem rb_qb {R x w : Nat} (hw : 0 < w) (h : x < w * R) : x / w < R := by
  rw [Nat.div_lt_iff_lt_mul hw, Nat.mul_comm]
  exact h
theorem rb_xb {R x w n : Nat} (hw : w < R ^ n) (h : x < w * R) : x < R ^ (n + 1) := by
  rw [Nat.pow_succ]
  exact Nat.lt_of_lt_of_le h (Nat.mul_le_mul_right R (Nat.le_of_lt hw))
/-- a stretch of the quotient: places from e on are there -/
def rb_Q (R : Nat) (a : Nat → Int32) (o n e v : Nat) : Prop := ∀ k, k < n → a (o + k) = nI (if k < e then 0 else rb_dg R v k)
theorem rb_Q0 {R : Nat} {a : Nat → Int32} {o n v : Nat} (h : rb_Q R a o n 0 v) : rb_H R a o n v := by
  intro i hi
  rw [h i hi, if_neg (Nat.not_lt_zero i)]
theorem rb_Qs {R : Nat} {a : Nat → Int32} {o n e v : Nat} (h : rb_Q R a o n (e + 1) v) (he : e < n) : rb_Q R (upd a (o + e) (nI (rb_dg R v e))) o n e v := by
  intro k hk
  by_cases c : k = e
  · rw [c, pk_us, if_neg (Nat.lt_irrefl e)]
  · rw [pk_un (by omega), h k hk]
    by_cases d : k < e
    · rw [if_pos d, if_pos (by omega)]
    · rw [if_neg d, if_neg (by omega)]
