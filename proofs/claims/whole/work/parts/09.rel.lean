/-! the relation, half by half -/
def rb_B (R : Nat) (V : Nat → Nat) : Prop := ∀ r, r < 4 → V r < R ^ 24
def rb_X (R : Nat) (V : Nat → Nat) (c : Nat → Int32) : Prop := ∀ r, r < 4 → rb_H R c (24 * r) 24 (V r)
def rb_Y (R : Nat) (V : Nat → Nat) (b : Nat → Int32) : Prop := ∀ r, r < 4 → rb_H R b (50 * r) 50 (V r)
def rb_PX (R : Nat) (V : Nat → Nat) (P : SX → Prop) : Prop := ∀ c l r q s p, rb_X R V c → P (nI R, c, l, r, q, s, p)
def rb_PY (R : Nat) (V : Nat → Nat) (P : SY → Prop) : Prop := ∀ b, rb_Y R V b → P (nI R, b)
theorem rb_Xs {R a x : Nat} {V : Nat → Nat} {c c' : Nat → Int32} (hX : rb_X R V c) (H : rb_H R c' (24 * a) 24 x) (K : rb_KX a c c') : rb_X R (rb_up V a x) c' := by
  intro r hr
  by_cases e : r = a
  · rw [e, rb_upS]
    exact H
  · rw [rb_upN e]
    exact rb_KXH K e (hX r hr)
theorem rb_Bs {R a x : Nat} {V : Nat → Nat} (hB : rb_B R V) (hx : x < R ^ 24) : rb_B R (rb_up V a x) := by
  intro r hr
  by_cases e : r = a
  · rw [e, rb_upS]
    exact hx
  · rw [rb_upN e]
    exact hB r hr
theorem rb_Ys {R a x : Nat} {V : Nat → Nat} {b b' : Nat → Int32} (hY : rb_Y R V b) (H : rb_H R b' (50 * a) 50 x) (K : rb_K a b b') : rb_Y R (rb_up V a x) b' := by
  intro r hr
  by_cases e : r = a
  · rw [e, rb_upS]
    exact H
  · rw [rb_upN e]
    exact rb_KH K e (by omega) (hY r hr)
/-- a work row was written -/
theorem rb_Yw {R t : Nat} {V : Nat → Nat} {b b' : Nat → Int32} (hY : rb_Y R V b) (ht : 4 ≤ t) (K : rb_K t b b') : rb_Y R V b' :=
  fun r hr => rb_KH K (by omega) (by omega) (hY r hr)
def rb_bad (x : Int32) : Prop := x < 0 ∨ nI 4 ≤ x
theorem rb_reg (x : Int32) : rb_bad x ∨ ∃ i : Nat, i < 4 ∧ x = nI i := by
  rcases pk_ix x (n := 4) (by decide) with h | h | h
  · exact Or.inl (Or.inl h)
  · exact Or.inl (Or.inr h)
  · exact Or.inr h
theorem rb_d24 {R v : Nat} (hR : 2 ≤ R) (hv : v < R ^ 25) : rb_dg R v 24 = 0 ↔ v < R ^ 24 := by
  constructor
  · intro h
    exact rb_top (m := 24) hR 1 hv (fun i i1 i2 => by
      have e : i = 24 := by omega
      rw [e]
      exact h)
  · intro h
    exact rb_hi hR h (Nat.le_refl 24)
theorem rb_sum25 {R v w : Nat} (hR : 2 ≤ R) (hv : v < R ^ 24) (hw : w < R ^ 24) : v + w < R ^ 25 := by
  have : 2 * R ^ 24 ≤ R * R ^ 24 := Nat.mul_le_mul_right _ hR
  rw [Nat.pow_succ, Nat.mul_comm]
  omega
theorem rb_w25 {R v : Nat} (hR : 2 ≤ R) (hv : v < R ^ 24) : v < R ^ 25 := Nat.lt_of_lt_of_le hv (rb_pm hR (by omega))
theorem rb_w50 {R v : Nat} (hR : 2 ≤ R) (hv : v < R ^ 24) : v < R ^ 50 := Nat.lt_of_lt_of_le hv (rb_pm hR (by omega))
/-! X's tests -/
theorem xx_reg {post : Int32 → Prop} {a : Nat} (ha : a < 4) (h : post 1) : wpX_isRegister post (nI a) :=
  br_f (nI_pos (by omega)) (br_f (nI_ge (b := 4) ha (by decide)) h)
theorem xx_noreg {post : Int32 → Prop} {x : Int32} (hx : rb_bad x) (h : post 0) : wpX_isRegister post x := by
  rcases hx with z | z
  · exact br_t z h
  · by_cases y : x < 0
    · exact br_t y h
    · exact br_f y (br_t z h)
theorem xx_place {post : Int32 → Prop} {i : Nat} (hi : i < 24) (h : post 1) : wpX_isPlace post (nI i) :=
  br_f (nI_pos (by omega)) (br_f (nI_ge (b := 24) hi (by decide)) h)
theorem xx_noplace {post : Int32 → Prop} {x : Int32} (hx : x < 0 ∨ nI 24 ≤ x) (h : post 0) : wpX_isPlace post x := by
  by_cases y : x < 0
  · exact br_t y h
  · exact br_f y (br_t (hx.resolve_left y) h)
theorem xx_placeI {post : Int32 → Prop} {x : Int32} (hx : 0 ≤ x ∧ x < 24) (h : post 1) : wpX_isPlace post x :=
  br_f (Int32.not_lt.mpr hx.1) (br_f (Int32.not_le.mpr hx.2) h)
theorem xx_placeO {post : Int32 → Prop} {x : Int32} (hx : ¬ (0 ≤ x ∧ x < 24)) (h : post 0) : wpX_isPlace post x := by
  by_cases y : x < 0
  · exact br_t y h
  · exact br_f y (br_t (Int32.not_lt.mp (fun z => hx ⟨Int32.not_lt.mp y, z⟩)) h)
theorem xx_digit {post : Int32 → Prop} {c l r q s p : Nat → Int32} {R d : Nat} (hR2 : R ≤ 36) (hd : d < R) (h : post 1) : wpX_isDigit post (nI R, c, l, r, q, s, p) (nI d) :=
  br_f (nI_pos (by omega)) (br_f (nI_ge hd (by omega)) h)
theorem xx_nodigit {post : Int32 → Prop} {c l r q s p : Nat → Int32} {R : Nat} {x : Int32} (hx : x < 0 ∨ nI R ≤ x) (h : post 0) : wpX_isDigit post (nI R, c, l, r, q, s, p) x := by
  by_cases y : x < 0
  · exact br_t y h
  · exact br_f y (br_t (hx.resolve_left y) h)
theorem xx_radix {post : Int32 → Prop} {o : Nat} (ho : 2 ≤ o) (ho2 : o ≤ 36) (h : post 1) : wpX_isRadix post (nI o) :=
  br_f (nI_nlt (b := 2) ho (by omega)) (br_f (nI_nlt (a := 36) ho2 (by decide)) h)
theorem xx_noradix {post : Int32 → Prop} {x : Int32} (hx : x < 2 ∨ 36 < x) (h : post 0) : wpX_isRadix post x := by
  by_cases y : x < 2
  · exact br_t y h
  · exact br_f y (br_t (hx.resolve_left y) h)
