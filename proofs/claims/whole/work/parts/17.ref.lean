theorem rb_rng (lo hi : Nat) (h : lo ≤ hi) (hh : hi < 2 ^ 31) (x : Int32) : (x < nI lo ∨ nI hi < x) ∨ ∃ j : Nat, lo ≤ j ∧ j ≤ hi ∧ x = nI j := by
  by_cases c : x < nI lo
  · exact Or.inl (Or.inl c)
  · have z : ¬ x < 0 := fun y => c (Int32.lt_of_lt_of_le y (nI_pos' (by omega)))
    obtain ⟨j, hj, rfl⟩ := nI_of z
    rw [nI_ltI hj (by omega)] at c
    by_cases d : j ≤ hi
    · exact Or.inr ⟨j, by omega, d, rfl⟩
    · exact Or.inl (Or.inr (nI_lt (by omega) hj))
theorem rb_ix24 (x : Int32) : (x < 0 ∨ nI 24 ≤ x) ∨ ∃ i : Nat, i < 24 ∧ x = nI i := by
  rcases pk_ix x (n := 24) (by decide) with h | h | h
  · exact Or.inl (Or.inl h)
  · exact Or.inl (Or.inr h)
  · exact Or.inr h
theorem rb_ixR {R : Nat} (x : Int32) (hR2 : R ≤ 36) : (x < 0 ∨ nI R ≤ x) ∨ ∃ i : Nat, i < R ∧ x = nI i := by
  rcases pk_ix x (n := R) (by omega) with h | h | h
  · exact Or.inl (Or.inl h)
  · exact Or.inl (Or.inr h)
  · exact Or.inr h
theorem rb_ix101 (x : Int32) : (x < 0 ∨ 100 < x) ∨ ∃ n : Nat, n ≤ 100 ∧ x = nI n := by
  rcases rb_rng 0 100 (by decide) (by decide) x with h | ⟨j, _, h1, h2⟩
  · exact Or.inl h
  · exact Or.inr ⟨j, h1, h2⟩
theorem rb_ix128 (x : Int32) : (x < 0 ∨ 127 < x) ∨ ∃ n : Nat, n < 128 ∧ x = nI n := by
  rcases rb_rng 0 127 (by decide) (by decide) x with h | ⟨j, _, h1, h2⟩
  · exact Or.inl h
  · exact Or.inr ⟨j, by omega, h2⟩
theorem rb_ixO (x : Int32) : (x < 2 ∨ 36 < x) ∨ ∃ o : Nat, 2 ≤ o ∧ o ≤ 36 ∧ x = nI o := rb_rng 2 36 (by decide) (by decide) x
theorem rb_ixM (x : Int32) : (x < 1 ∨ 1000000 < x) ∨ ∃ o : Nat, 0 < o ∧ o ≤ 1000000 ∧ x = nI o := rb_rng 1 1000000 (by decide) (by decide) x
/-- a test with two limits, refused -/
theorem rb_rf {c d A B : Prop} (h : c ∨ ¬ d) (a : A) : (c → A) ∧ (¬ c → ((d → B) ∧ (¬ d → A))) :=
  ⟨fun _ => a, fun n => ⟨fun y => h.elim (fun z => absurd z n) (fun z => absurd y z), fun _ => a⟩⟩
theorem rb_le127 {x : Int32} (h : 127 < x) : ¬ x < 128 := by
  rw [Int32.lt_iff_toInt_lt] at h ⊢
  have a : (127 : Int32).toInt = 127 := by decide
  have b : (128 : Int32).toInt = 128 := by decide
  omega
theorem rb_n23 {x : Int32} (g : x < 0 ∨ nI 24 ≤ x) : x < 0 ∨ ¬ x ≤ 23 := by
  rcases g with g | g
  · exact Or.inl g
  · by_cases z : x < 0
    · exact Or.inl z
    · obtain ⟨j, hj, rfl⟩ := nI_of z
      have h := (nI_leI (by decide) hj).mp g
      exact Or.inr (nI_ge (a := 23) (by omega) hj)
theorem rb_nR {x : Int32} {R : Nat} (g : x < 0 ∨ nI R ≤ x) : x < 0 ∨ ¬ x < nI R := g.imp id Int32.not_lt.mpr
theorem xn_set {post : Int32 → SX → Prop} {F : Int32} {c l r q s p : Nat → Int32} {x x2 x3 : Int32} (g : rb_bad x) (h : post (-1) (F, c, l, r, q, s, p)) : wpX_set post (F, c, l, r, q, s, p) x x2 x3 := by
  unfold wpX_set
  exact xx_noreg g (br_t rfl h)
theorem yn_set {post : Int32 → SY → Prop} {F : Int32} {y : Nat → Int32} {x x2 x3 : Int32} (g : rb_bad x) (h : post (-1) (F, y)) : wpY_set post (F, y) x x2 x3 := by
  unfold wpY_set
  exact yy_bad g (br_f (by decide) h)
theorem xn_shift {post : Int32 → SX → Prop} {F : Int32} {c l r q s p : Nat → Int32} {x x2 : Int32} (g : rb_bad x) (h : post (-1) (F, c, l, r, q, s, p)) : wpX_shift post (F, c, l, r, q, s, p) x x2 := by
  unfold wpX_shift
  exact xx_noreg g (br_t rfl h)
theorem yn_shift {post : Int32 → SY → Prop} {F : Int32} {y : Nat → Int32} {x x2 : Int32} (g : rb_bad x) (h : post (-1) (F, y)) : wpY_shift post (F, y) x x2 := by
  unfold wpY_shift
  exact yy_bad g (br_f (by decide) h)
theorem xn_feed {post : Int32 → SX → Prop} {F : Int32} {c l r q s p : Nat → Int32} {x x2 : Int32} (g : rb_bad x) (h : post (-1) (F, c, l, r, q, s, p)) : wpX_feed post (F, c, l, r, q, s, p) x x2 := by
  unfold wpX_feed
  exact xx_noreg g (br_t rfl h)
theorem yn_feed {post : Int32 → SY → Prop} {F : Int32} {y : Nat → Int32} {x x2 : Int32} (g : rb_bad x) (h : post (-1) (F, y)) : wpY_feed post (F, y) x x2 := by
  unfold wpY_feed
  exact yy_bad g (br_f (by decide) h)
theorem xn_copy {post : Int32 → SX → Prop} {F : Int32} {c l r q s p : Nat → Int32} {x x2 : Int32} (g : rb_bad x) (h : post (-1) (F, c, l, r, q, s, p)) : wpX_copy post (F, c, l, r, q, s, p) x x2 := by
  unfold wpX_copy
  exact xx_noreg g (br_t rfl h)
theorem yn_copy {post : Int32 → SY → Prop} {F : Int32} {y : Nat → Int32} {x x2 : Int32} (g : rb_bad x) (h : post (-1) (F, y)) : wpY_copy post (F, y) x x2 := by
  unfold wpY_copy
  exact yy_bad g (br_f (by decide) h)
theorem xn_add {post : Int32 → SX → Prop} {F : Int32} {c l r q s p : Nat → Int32} {x x2 : Int32} (g : rb_bad x) (h : post (-1) (F, c, l, r, q, s, p)) : wpX_add post (F, c, l, r, q, s, p) x x2 := by
  unfold wpX_add
  exact xx_noreg g (br_t rfl h)
theorem yn_add {post : Int32 → SY → Prop} {F : Int32} {y : Nat → Int32} {x x2 : Int32} (g : rb_bad x) (h : post (-1) (F, y)) : wpY_add post (F, y) x x2 := by
  unfold wpY_add
  exact yy_bad g (br_f (by decide) h)
theorem xn_subtract {post : Int32 → SX → Prop} {F : Int32} {c l r q s p : Nat → Int32} {x x2 : Int32} (g : rb_bad x) (h : post (-1) (F, c, l, r, q, s, p)) : wpX_subtract post (F, c, l, r, q, s, p) x x2 := by
  unfold wpX_subtract
  exact xx_noreg g (br_t rfl h)
theorem yn_subtract {post : Int32 → SY → Prop} {F : Int32} {y : Nat → Int32} {x x2 : Int32} (g : rb_bad x) (h : post (-1) (F, y)) : wpY_subtract post (F, y) x x2 := by
  unfold wpY_subtract
  exact yy_bad g (br_f (by decide) h)
theorem xn_multiply {post : Int32 → SX → Prop} {F : Int32} {c l r q s p : Nat → Int32} {x x2 : Int32} (g : rb_bad x) (h : post (-1) (F, c, l, r, q, s, p)) : wpX_multiply post (F, c, l, r, q, s, p) x x2 := by
  unfold wpX_multiply
  exact xx_noreg g (br_t rfl h)
theorem yn_multiply {post : Int32 → SY → Prop} {F : Int32} {y : Nat → Int32} {x x2 : Int32} (g : rb_bad x) (h : post (-1) (F, y)) : wpY_multiply post (F, y) x x2 := by
  unfold wpY_multiply
  exact yy_bad g (br_f (by decide) h)
theorem xn_multiplyLow {post : Int32 → SX → Prop} {F : Int32} {c l r q s p : Nat → Int32} {x x2 : Int32} (g : rb_bad x) (h : post (-1) (F, c, l, r, q, s, p)) : wpX_multiplyLow post (F, c, l, r, q, s, p) x x2 := by
  unfold wpX_multiplyLow
  exact xx_noreg g (br_t rfl h)
theorem yn_multiplyLow {post : Int32 → SY → Prop} {F : Int32} {y : Nat → Int32} {x x2 : Int32} (g : rb_bad x) (h : post (-1) (F, y)) : wpY_multiplyLow post (F, y) x x2 := by
  unfold wpY_multiplyLow
  exact yy_bad g (br_f (by decide) h)
theorem xn_divide {post : Int32 → SX → Prop} {F : Int32} {c l r q s p : Nat → Int32} {x x2 x3 : Int32} (g : rb_bad x) (h : post (-1) (F, c, l, r, q, s, p)) : wpX_divide post (F, c, l, r, q, s, p) x x2 x3 := by
  unfold wpX_divide
  exact xx_noreg g (br_t rfl h)
theorem yn_divide {post : Int32 → SY → Prop} {F : Int32} {y : Nat → Int32} {x x2 x3 : Int32} (g : rb_bad x) (h : post (-1) (F, y)) : wpY_divide post (F, y) x x2 x3 := by
  unfold wpY_divide
  exact yy_bad g (br_f (by decide) h)
theorem xn_root {post : Int32 → SX → Prop} {F : Int32} {c l r q s p : Nat → Int32} {x : Int32} (g : rb_bad x) (h : post (-1) (F, c, l, r, q, s, p)) : wpX_root post (F, c, l, r, q, s, p) x := by
  unfold wpX_root
  exact xx_noreg g (br_t rfl h)
theorem yn_root {post : Int32 → SY → Prop} {F : Int32} {y : Nat → Int32} {x : Int32} (g : rb_bad x) (h : post (-1) (F, y)) : wpY_root post (F, y) x := by
  unfold wpY_root
  exact yy_bad g (br_f (by decide) h)
theorem xn_power {post : Int32 → SX → Prop} {F : Int32} {c l r q s p : Nat → Int32} {x x2 : Int32} (g : rb_bad x) (h : post (-1) (F, c, l, r, q, s, p)) : wpX_power post (F, c, l, r, q, s, p) x x2 := by
  unfold wpX_power
  exact xx_noreg g (br_t rfl h)
theorem yn_power {post : Int32 → SY → Prop} {F : Int32} {y : Nat → Int32} {x x2 : Int32} (g : rb_bad x) (h : post (-1) (F, y)) : wpY_power post (F, y) x x2 := by
  unfold wpY_power
  exact yy_bad g (br_f (by decide) h)
theorem xn_divisor {post : Int32 → SX → Prop} {F : Int32} {c l r q s p : Nat → Int32} {x x2 : Int32} (g : rb_bad x) (h : post (-1) (F, c, l, r, q, s, p)) : wpX_divisor post (F, c, l, r, q, s, p) x x2 := by
  unfold wpX_divisor
  exact xx_noreg g (br_t rfl h)
theorem yn_divisor {post : Int32 → SY → Prop} {F : Int32} {y : Nat → Int32} {x x2 : Int32} (g : rb_bad x) (h : post (-1) (F, y)) : wpY_divisor post (F, y) x x2 := by
  unfold wpY_divisor
  exact yy_bad g (br_f (by decide) h)
theorem xn_digit {post : Int32 → Prop} {F : Int32} {c l r q s p : Nat → Int32} {x x2 : Int32} (g : rb_bad x) (h : post (-1)) : wpX_digit post (F, c, l, r, q, s, p) x x2 := by
  unfold wpX_digit
  exact xx_noreg g (br_t rfl h)
theorem yn_digit {post : Int32 → Prop} {F : Int32} {y : Nat → Int32} {x x2 : Int32} (g : rb_bad x) (h : post (-1)) : wpY_digit post (F, y) x x2 := by
  unfold wpY_digit
  exact yy_bad g (br_f (by decide) h)
theorem xn_length {post : Int32 → Prop} {F : Int32} {c l r q s p : Nat → Int32} {x : Int32} (g : rb_bad x) (h : post (-1)) : wpX_length post (F, c, l, r, q, s, p) x := by
  unfold wpX_length
  exact xx_noreg g (br_t rfl h)
theorem yn_length {post : Int32 → Prop} {F : Int32} {y : Nat → Int32} {x : Int32} (g : rb_bad x) (h : post (-1)) : wpY_length post (F, y) x := by
  unfold wpY_length
  exact yy_bad g (br_f (by decide) h)
theorem xn_compare {post : Int32 → SX → Prop} {F : Int32} {c l r q s p : Nat → Int32} {x x2 : Int32} (g : rb_bad x) (h : post (-1) (F, c, l, r, q, s, p)) : wpX_compare post (F, c, l, r, q, s, p) x x2 := by
  unfold wpX_compare
  exact xx_noreg g (br_t rfl h)
theorem yn_compare {post : Int32 → Prop} {F : Int32} {y : Nat → Int32} {x x2 : Int32} (g : rb_bad x) (h : post (-1)) : wpY_compare post (F, y) x x2 := by
  unfold wpY_compare
  exact yy_bad g (br_f (by decide) h)
theorem xn_digitIn {post : Int32 → SX → Prop} {F : Int32} {c l r q s p : Nat → Int32} {x x2 x3 : Int32} (g : rb_bad x) (h : post (-1) (F, c, l, r, q, s, p)) : wpX_digitIn post (F, c, l, r, q, s, p) x x2 x3 := by
  unfold wpX_digitIn
  exact xx_noreg g (br_t rfl h)
theorem yn_digitIn {post : Int32 → SY → Prop} {F : Int32} {y : Nat → Int32} {x x2 x3 : Int32} (g : rb_bad x) (h : post (-1) (F, y)) : wpY_digitIn post (F, y) x x2 x3 := by
  unfold wpY_digitIn
  exact yy_bad g (br_f (by decide) h)
theorem xn_lengthIn {post : Int32 → SX → Prop} {F : Int32} {c l r q s p : Nat → Int32} {x x2 : Int32} (g : rb_bad x) (h : post (-1) (F, c, l, r, q, s, p)) : wpX_lengthIn post (F, c, l, r, q, s, p) x x2 := by
  unfold wpX_lengthIn
  exact xx_noreg g (br_t rfl h)
theorem yn_lengthIn {post : Int32 → SY → Prop} {F : Int32} {y : Nat → Int32} {x x2 : Int32} (g : rb_bad x) (h : post (-1) (F, y)) : wpY_lengthIn post (F, y) x x2 := by
  unfold wpY_lengthIn
  exact yy_bad g (br_f (by decide) h)
theorem xn_remainder {post : Int32 → Prop} {F : Int32} {c l r q s p : Nat → Int32} {x x2 : Int32} (g : rb_bad x) (h : post (-1)) : wpX_remainder post (F, c, l, r, q, s, p) x x2 := by
  unfold wpX_remainder
  exact xx_noreg g (br_t rfl h)
theorem yn_remainder {post : Int32 → SY → Prop} {F : Int32} {y : Nat → Int32} {x x2 : Int32} (g : rb_bad x) (h : post (-1) (F, y)) : wpY_remainder post (F, y) x x2 := by
  unfold wpY_remainder
  exact yy_bad g (br_f (by decide) h)
theorem xm_copy {post : Int32 → SX → Prop} {F : Int32} {c l r q s p : Nat → Int32} {a : Nat} {x2 : Int32} (ha : a < 4) (g : rb_bad x2) (h : post (-1) (F, c, l, r, q, s, p)) : wpX_copy post (F, c, l, r, q, s, p) (nI a) x2 := by
  unfold wpX_copy
  exact xx_reg ha (br_f (by decide) (xx_noreg g (br_t rfl h)))
theorem ym_copy {post : Int32 → SY → Prop} {F : Int32} {y : Nat → Int32} {a : Nat} {x2 : Int32} (ha : a < 4) (g : rb_bad x2) (h : post (-1) (F, y)) : wpY_copy post (F, y) (nI a) x2 := by
  unfold wpY_copy
  exact yy_ok ha (br_t rfl (yy_bad g (br_f (by decide) h)))
theorem xm_add {post : Int32 → SX → Prop} {F : Int32} {c l r q s p : Nat → Int32} {a : Nat} {x2 : Int32} (ha : a < 4) (g : rb_bad x2) (h : post (-1) (F, c, l, r, q, s, p)) : wpX_add post (F, c, l, r, q, s, p) (nI a) x2 := by
  unfold wpX_add
  exact xx_reg ha (br_f (by decide) (xx_noreg g (br_t rfl h)))
theorem ym_add {post : Int32 → SY → Prop} {F : Int32} {y : Nat → Int32} {a : Nat} {x2 : Int32} (ha : a < 4) (g : rb_bad x2) (h : post (-1) (F, y)) : wpY_add post (F, y) (nI a) x2 := by
  unfold wpY_add
  exact yy_ok ha (br_t rfl (yy_bad g (br_f (by decide) h)))
theorem xm_subtract {post : Int32 → SX → Prop} {F : Int32} {c l r q s p : Nat → Int32} {a : Nat} {x2 : Int32} (ha : a < 4) (g : rb_bad x2) (h : post (-1) (F, c, l, r, q, s, p)) : wpX_subtract post (F, c, l, r, q, s, p) (nI a) x2 := by
  unfold wpX_subtract
  exact xx_reg ha (br_f (by decide) (xx_noreg g (br_t rfl h)))
theorem ym_subtract {post : Int32 → SY → Prop} {F : Int32} {y : Nat → Int32} {a : Nat} {x2 : Int32} (ha : a < 4) (g : rb_bad x2) (h : post (-1) (F, y)) : wpY_subtract post (F, y) (nI a) x2 := by
  unfold wpY_subtract
  exact yy_ok ha (br_t rfl (yy_bad g (br_f (by decide) h)))
theorem xm_multiply {post : Int32 → SX → Prop} {F : Int32} {c l r q s p : Nat → Int32} {a : Nat} {x2 : Int32} (ha : a < 4) (g : rb_bad x2) (h : post (-1) (F, c, l, r, q, s, p)) : wpX_multiply post (F, c, l, r, q, s, p) (nI a) x2 := by
  unfold wpX_multiply
  exact xx_reg ha (br_f (by decide) (xx_noreg g (br_t rfl h)))
theorem ym_multiply {post : Int32 → SY → Prop} {F : Int32} {y : Nat → Int32} {a : Nat} {x2 : Int32} (ha : a < 4) (g : rb_bad x2) (h : post (-1) (F, y)) : wpY_multiply post (F, y) (nI a) x2 := by
  unfold wpY_multiply
  exact yy_ok ha (br_t rfl (yy_bad g (br_f (by decide) h)))
theorem xm_multiplyLow {post : Int32 → SX → Prop} {F : Int32} {c l r q s p : Nat → Int32} {a : Nat} {x2 : Int32} (ha : a < 4) (g : rb_bad x2) (h : post (-1) (F, c, l, r, q, s, p)) : wpX_multiplyLow post (F, c, l, r, q, s, p) (nI a) x2 := by
  unfold wpX_multiplyLow
  exact xx_reg ha (br_f (by decide) (xx_noreg g (br_t rfl h)))
theorem ym_multiplyLow {post : Int32 → SY → Prop} {F : Int32} {y : Nat → Int32} {a : Nat} {x2 : Int32} (ha : a < 4) (g : rb_bad x2) (h : post (-1) (F, y)) : wpY_multiplyLow post (F, y) (nI a) x2 := by
  unfold wpY_multiplyLow
  exact yy_ok ha (br_t rfl (yy_bad g (br_f (by decide) h)))
theorem xm_divide {post : Int32 → SX → Prop} {F : Int32} {c l r q s p : Nat → Int32} {a : Nat} {x2 x3 : Int32} (ha : a < 4) (g : rb_bad x2) (h : post (-1) (F, c, l, r, q, s, p)) : wpX_divide post (F, c, l, r, q, s, p) (nI a) x2 x3 := by
  unfold wpX_divide
  exact xx_reg ha (br_f (by decide) (xx_noreg g (br_t rfl h)))
theorem ym_divide {post : Int32 → SY → Prop} {F : Int32} {y : Nat → Int32} {a : Nat} {x2 x3 : Int32} (ha : a < 4) (g : rb_bad x2) (h : post (-1) (F, y)) : wpY_divide post (F, y) (nI a) x2 x3 := by
  unfold wpY_divide
  exact yy_ok ha (br_t rfl (yy_bad g (br_f (by decide) h)))
theorem xm_divisor {post : Int32 → SX → Prop} {F : Int32} {c l r q s p : Nat → Int32} {a : Nat} {x2 : Int32} (ha : a < 4) (g : rb_bad x2) (h : post (-1) (F, c, l, r, q, s, p)) : wpX_divisor post (F, c, l, r, q, s, p) (nI a) x2 := by
  unfold wpX_divisor
  exact xx_reg ha (br_f (by decide) (xx_noreg g (br_t rfl h)))
theorem ym_divisor {post : Int32 → SY → Prop} {F : Int32} {y : Nat → Int32} {a : Nat} {x2 : Int32} (ha : a < 4) (g : rb_bad x2) (h : post (-1) (F, y)) : wpY_divisor post (F, y) (nI a) x2 := by
  unfold wpY_divisor
  exact yy_ok ha (br_t rfl (yy_bad g (br_f (by decide) h)))
theorem xm_compare {post : Int32 → SX → Prop} {F : Int32} {c l r q s p : Nat → Int32} {a : Nat} {x2 : Int32} (ha : a < 4) (g : rb_bad x2) (h : post (-1) (F, c, l, r, q, s, p)) : wpX_compare post (F, c, l, r, q, s, p) (nI a) x2 := by
  unfold wpX_compare
  exact xx_reg ha (br_f (by decide) (xx_noreg g (br_t rfl h)))
theorem ym_compare {post : Int32 → Prop} {F : Int32} {y : Nat → Int32} {a : Nat} {x2 : Int32} (ha : a < 4) (g : rb_bad x2) (h : post (-1)) : wpY_compare post (F, y) (nI a) x2 := by
  unfold wpY_compare
  exact yy_ok ha (br_t rfl (yy_bad g (br_f (by decide) h)))
theorem xk_divide {post : Int32 → SX → Prop} {F : Int32} {c l r q s p : Nat → Int32} {a b : Nat} {x : Int32} (ha : a < 4) (hb : b < 4) (g : rb_bad x) (h : post (-1) (F, c, l, r, q, s, p)) : wpX_divide post (F, c, l, r, q, s, p) (nI a) (nI b) x := by
  unfold wpX_divide
  exact xx_reg ha (br_f (by decide) (xx_reg hb (br_f (by decide) (xx_noreg g (br_t rfl h)))))
theorem yk_divide {post : Int32 → SY → Prop} {F : Int32} {y : Nat → Int32} {a b : Nat} {x : Int32} (ha : a < 4) (hb : b < 4) (g : rb_bad x) (h : post (-1) (F, y)) : wpY_divide post (F, y) (nI a) (nI b) x := by
  unfold wpY_divide
  exact yy_ok ha (br_t rfl (yy_ok hb (br_t rfl (yy_bad g (br_f (by decide) h)))))
theorem xe_divide {post : Int32 → SX → Prop} {F : Int32} {c l r q s p : Nat → Int32} {d a b : Nat} (hd : d < 4) (ha : a < 4) (hb : b < 4) (g : d = a ∨ d = b ∨ a = b) (h : post (-2) (F, c, l, r, q, s, p)) : wpX_divide post (F, c, l, r, q, s, p) (nI d) (nI a) (nI b) := by
  unfold wpX_divide
  exact xx_reg hd (br_f (by decide) (xx_reg ha (br_f (by decide) (xx_reg hb (br_f (by decide) ⟨fun _ => h, fun n1 => ⟨fun _ => h, fun n2 => ⟨fun _ => h, fun n3 => (g.elim (fun e => absurd (congrArg nI e) n1) (fun g => g.elim (fun e => absurd (congrArg nI e) n2) (fun e => absurd (congrArg nI e) n3)))⟩⟩⟩)))))
theorem ye_divide {post : Int32 → SY → Prop} {F : Int32} {y : Nat → Int32} {d a b : Nat} (hd : d < 4) (ha : a < 4) (hb : b < 4) (g : d = a ∨ d = b ∨ a = b) (h : post (-2) (F, y)) : wpY_divide post (F, y) (nI d) (nI a) (nI b) := by
  unfold wpY_divide
  exact yy_ok hd (br_t rfl (yy_ok ha (br_t rfl (yy_ok hb (br_t rfl ⟨fun _ => h, fun n1 => ⟨fun _ => h, fun n2 => ⟨fun _ => h, fun n3 => (g.elim (fun e => absurd (congrArg nI e) n1) (fun g => g.elim (fun e => absurd (congrArg nI e) n2) (fun e => absurd (congrArg nI e) n3)))⟩⟩⟩)))))
theorem xo_digit {post : Int32 → Prop} {F : Int32} {c l r q s p : Nat → Int32} {x : Int32} {a : Nat} (ha : a < 4) (g : x < 0 ∨ nI 24 ≤ x) (h : post (-2)) : wpX_digit post (F, c, l, r, q, s, p) (nI a) x := by
  unfold wpX_digit
  exact xx_reg ha (br_f (by decide) (xx_noplace g (br_t rfl h)))
theorem yo_digit {post : Int32 → Prop} {F : Int32} {y : Nat → Int32} {x : Int32} {a : Nat} (ha : a < 4) (g : x < 0 ∨ nI 24 ≤ x) (h : post (-2)) : wpY_digit post (F, y) (nI a) x := by
  unfold wpY_digit
  exact yy_ok ha (br_t rfl (rb_rf (rb_n23 g) h))
theorem xo_set {post : Int32 → SX → Prop} {F : Int32} {c l r q s p : Nat → Int32} {x x3 : Int32} {a : Nat} (ha : a < 4) (g : x < 0 ∨ nI 24 ≤ x) (h : post (-2) (F, c, l, r, q, s, p)) : wpX_set post (F, c, l, r, q, s, p) (nI a) x x3 := by
  unfold wpX_set
  exact xx_reg ha (br_f (by decide) (xx_noplace g (br_t rfl h)))
theorem yo_set {post : Int32 → SY → Prop} {F : Int32} {y : Nat → Int32} {x x3 : Int32} {a : Nat} (ha : a < 4) (g : x < 0 ∨ nI 24 ≤ x) (h : post (-2) (F, y)) : wpY_set post (F, y) (nI a) x x3 := by
  unfold wpY_set
  exact yy_ok ha (br_t rfl (rb_rf (rb_n23 g) h))
theorem xp_set {post : Int32 → SX → Prop} {R : Nat} {c l r q s p : Nat → Int32} {a i : Nat} {x : Int32}  (hR2 : R ≤ 36) (ha : a < 4) (hi : i < 24) (g : x < 0 ∨ nI R ≤ x) (h : post (-3) (nI R, c, l, r, q, s, p)) : wpX_set post (nI R, c, l, r, q, s, p) (nI a) (nI i) x := by
  unfold wpX_set
  exact xx_reg ha (br_f (by decide) (xx_place hi (br_f (by decide) (xx_nodigit g (br_t rfl h)))))
theorem yp_set {post : Int32 → SY → Prop} {R : Nat} {y : Nat → Int32} {a i : Nat} {x : Int32}  (hR2 : R ≤ 36) (ha : a < 4) (hi : i < 24) (g : x < 0 ∨ nI R ≤ x) (h : post (-3) (nI R, y)) : wpY_set post (nI R, y) (nI a) (nI i) x := by
  unfold wpY_set
  exact yy_ok ha (br_t rfl (br_f (nI_pos (by omega)) (br_t (nI_le (b := 23) (by omega) (by decide)) (rb_rf (rb_nR g) h))))
theorem xo_feed {post : Int32 → SX → Prop} {R : Nat} {c l r q s p : Nat → Int32} {a : Nat} {x : Int32}  (hR2 : R ≤ 36) (ha : a < 4) (g : x < 0 ∨ nI R ≤ x) (h : post (-2) (nI R, c, l, r, q, s, p)) : wpX_feed post (nI R, c, l, r, q, s, p) (nI a) x := by
  unfold wpX_feed
  exact xx_reg ha (br_f (by decide) (xx_nodigit g (br_t rfl h)))
theorem yo_feed {post : Int32 → SY → Prop} {R : Nat} {y : Nat → Int32} {a : Nat} {x : Int32}  (hR2 : R ≤ 36) (ha : a < 4) (g : x < 0 ∨ nI R ≤ x) (h : post (-2) (nI R, y)) : wpY_feed post (nI R, y) (nI a) x := by
  unfold wpY_feed
  exact yy_ok ha (br_t rfl (rb_rf (rb_nR g) h))
theorem xo_shift {post : Int32 → SX → Prop} {F : Int32} {c l r q s p : Nat → Int32} {x : Int32} {a : Nat} (ha : a < 4) (g : x < -24 ∨ ¬ x ≤ 24) (h : post (-2) (F, c, l, r, q, s, p)) : wpX_shift post (F, c, l, r, q, s, p) (nI a) x := by
  unfold wpX_shift
  exact xx_reg ha (br_f (by decide) (rb_rf g h))
theorem yo_shift {post : Int32 → SY → Prop} {F : Int32} {y : Nat → Int32} {x : Int32} {a : Nat} (ha : a < 4) (g : x < -24 ∨ ¬ x ≤ 24) (h : post (-2) (F, y)) : wpY_shift post (F, y) (nI a) x := by
  unfold wpY_shift
  exact yy_ok ha (br_t rfl (rb_rf g h))
theorem xo_power {post : Int32 → SX → Prop} {F : Int32} {c l r q s p : Nat → Int32} {x : Int32} {a : Nat} (ha : a < 4) (g : x < 0 ∨ 100 < x) (h : post (-2) (F, c, l, r, q, s, p)) : wpX_power post (F, c, l, r, q, s, p) (nI a) x := by
  unfold wpX_power
  exact xx_reg ha (br_f (by decide) (rb_rf (g.imp id Int32.not_le.mpr) h))
theorem yo_power {post : Int32 → SY → Prop} {F : Int32} {y : Nat → Int32} {x : Int32} {a : Nat} (ha : a < 4) (g : x < 0 ∨ 100 < x) (h : post (-2) (F, y)) : wpY_power post (F, y) (nI a) x := by
  unfold wpY_power
  exact yy_ok ha (br_t rfl (rb_rf (g.imp id Int32.not_le.mpr) h))
theorem xo_remainder {post : Int32 → Prop} {F : Int32} {c l r q s p : Nat → Int32} {x : Int32} {a : Nat} (ha : a < 4) (g : x < 1 ∨ 1000000 < x) (h : post (-2)) : wpX_remainder post (F, c, l, r, q, s, p) (nI a) x := by
  unfold wpX_remainder
  exact xx_reg ha (br_f (by decide) (rb_rf (g.imp id Int32.not_le.mpr) h))
theorem yo_remainder {post : Int32 → SY → Prop} {F : Int32} {y : Nat → Int32} {x : Int32} {a : Nat} (ha : a < 4) (g : x < 1 ∨ 1000000 < x) (h : post (-2) (F, y)) : wpY_remainder post (F, y) (nI a) x := by
  unfold wpY_remainder
  exact yy_ok ha (br_t rfl (rb_rf (g.imp id Int32.not_le.mpr) h))
theorem xo_lengthIn {post : Int32 → SX → Prop} {F : Int32} {c l r q s p : Nat → Int32} {x : Int32} {a : Nat} (ha : a < 4) (g : x < 2 ∨ 36 < x) (h : post (-2) (F, c, l, r, q, s, p)) : wpX_lengthIn post (F, c, l, r, q, s, p) (nI a) x := by
  unfold wpX_lengthIn
  exact xx_reg ha (br_f (by decide) (xx_noradix g (br_t rfl h)))
theorem yo_lengthIn {post : Int32 → SY → Prop} {F : Int32} {y : Nat → Int32} {x : Int32} {a : Nat} (ha : a < 4) (g : x < 2 ∨ 36 < x) (h : post (-2) (F, y)) : wpY_lengthIn post (F, y) (nI a) x := by
  unfold wpY_lengthIn
  exact yy_ok ha (br_t rfl (rb_rf (g.imp id Int32.not_le.mpr) h))
theorem xo_digitIn {post : Int32 → SX → Prop} {F : Int32} {c l r q s p : Nat → Int32} {x x3 : Int32} {a : Nat} (ha : a < 4) (g : x < 2 ∨ 36 < x) (h : post (-2) (F, c, l, r, q, s, p)) : wpX_digitIn post (F, c, l, r, q, s, p) (nI a) x x3 := by
  unfold wpX_digitIn
  exact xx_reg ha (br_f (by decide) (xx_noradix g (br_t rfl h)))
theorem yo_digitIn {post : Int32 → SY → Prop} {F : Int32} {y : Nat → Int32} {x x3 : Int32} {a : Nat} (ha : a < 4) (g : x < 2 ∨ 36 < x) (h : post (-2) (F, y)) : wpY_digitIn post (F, y) (nI a) x x3 := by
  unfold wpY_digitIn
  exact yy_ok ha (br_t rfl (rb_rf (g.imp id Int32.not_le.mpr) h))
theorem xp_digitIn {post : Int32 → SX → Prop} {F : Int32} {c l r q s p : Nat → Int32} {a o : Nat} {x : Int32} (ha : a < 4) (ho : 2 ≤ o) (ho2 : o ≤ 36) (g : x < 0 ∨ 127 < x) (h : post (-3) (F, c, l, r, q, s, p)) : wpX_digitIn post (F, c, l, r, q, s, p) (nI a) (nI o) x := by
  unfold wpX_digitIn
  exact xx_reg ha (br_f (by decide) (xx_radix ho ho2 (br_f (by decide) (rb_rf (g.imp id rb_le127) h))))
theorem yp_digitIn {post : Int32 → SY → Prop} {F : Int32} {y : Nat → Int32} {a o : Nat} {x : Int32} (ha : a < 4) (ho : 2 ≤ o) (ho2 : o ≤ 36) (g : x < 0 ∨ 127 < x) (h : post (-3) (F, y)) : wpY_digitIn post (F, y) (nI a) (nI o) x := by
  unfold wpY_digitIn
  exact yy_ok ha (br_t rfl (br_f (nI_nlt (b := 2) ho (by omega)) (br_t (nI_le (b := 36) ho2 (by decide)) (rb_rf (g.imp id Int32.not_le.mpr) h))))
