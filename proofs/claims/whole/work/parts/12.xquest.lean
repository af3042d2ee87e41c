theorem xl_digitIn {post : Int32 → SX → Prop} {c r q s p : Nat → Int32} {R v o i : Nat} {V : Nat → Nat} (hR : 2 ≤ R) (hR2 : R ≤ 36) (hX : rb_X R V c) (hv : v < R ^ 24) (ho : 2 ≤ o) (ho2 : o ≤ 36) (hi : i < 128)
    (h : rb_PX R V (post (nI (v / o ^ i % o)))) : ∀ d k (y : Int32) l, k + d = i + 1 → rb_H R l 0 25 (v / o ^ k) → (k = i + 1 → y = nI (v / o ^ i % o)) → wX_digitIn_48 post (nI o) (nI i) (d + 1) y (nI k) (nI R) c l r q s p
  | 0, k, y, l, e, H, hy => br_t (nI_lt (by omega) (by omega)) (by
      rw [hy (by omega)]
      exact h _ _ _ _ _ _ hX)
  | d + 1, k, y, l, e, H, hy => br_f (nI_nlt (by omega) (by omega)) (xx_takeLastDigit_left hR hR2 (by omega) ho2 H (Nat.lt_of_le_of_lt (Nat.div_le_self _ _) hv) (fun l1 H1 => nm_r (nI_1 k) (by
      rw [← rb_dv] at H1
      exact xl_digitIn hR hR2 hX hv ho ho2 hi h d (k + 1) _ l1 (by omega) H1 (fun z => by
        have e2 : k = i := by omega
        rw [e2]))))
theorem xx_digitIn {post : Int32 → SX → Prop} {c l r q s p : Nat → Int32} {R a o i : Nat} {V : Nat → Nat} (hR : 2 ≤ R) (hR2 : R ≤ 36) (hB : rb_B R V) (hX : rb_X R V c) (ha : a < 4) (ho : 2 ≤ o) (ho2 : o ≤ 36) (hi : i < 128)
    (h : rb_PX R V (post (nI (V a / o ^ i % o)))) : wpX_digitIn post (nI R, c, l, r, q, s, p) (nI a) (nI o) (nI i) := by
  unfold wpX_digitIn
  dsimp only
  refine xx_reg ha (br_f (by decide) (xx_radix ho ho2 (br_f (by decide) (br_f (nI_pos (by omega)) (br_t (nI_lt (b := 128) hi (by decide)) ?_)))))
  refine xx_load_left ha hR (hX a ha) (hB a ha) (fun l1 Hl => ?_)
  exact ⟨i + 2, xl_digitIn hR hR2 hX (hB a ha) ho ho2 hi h (i + 1) 0 0 l1 (by omega) (by rw [Nat.pow_zero, Nat.div_one]; exact Hl) (fun z => absurd z (by omega))⟩
theorem xl_lengthIn {post : Int32 → SX → Prop} {c r q s p : Nat → Int32} {R v o : Nat} {V : Nat → Nat} (hR : 2 ≤ R) (hR2 : R ≤ 36) (hX : rb_X R V c) (hv : v < R ^ 24) (ho : 2 ≤ o) (ho2 : o ≤ 36)
    (h : ∀ n, n ≤ 128 → (∀ j, j < n → v / o ^ j ≠ 0) → (n = 128 ∨ v / o ^ n = 0) → rb_PX R V (post (nI n))) : ∀ d k l, k + d = 128 → rb_H R l 0 25 (v / o ^ k) → (∀ j, j < k → v / o ^ j ≠ 0) → wX_lengthIn_30 post (nI o) (d + 1) (nI k) (nI R) c l r q s p
  | 0, k, l, e, H, hj => br_t (nI_le (a := 128) (by omega) (by omega)) (h k (by omega) hj (Or.inl (by omega)) _ _ _ _ _ _ hX)
  | d + 1, k, l, e, H, hj => by
    have b1 : v / o ^ k < R ^ 24 := Nat.lt_of_le_of_lt (Nat.div_le_self _ _) hv
    refine br_f (nI_ge (b := 128) (by omega) (by decide)) (xx_isZero_left hR hR2 H (rb_w25 hR b1) (fun z => br_t rfl ?_) (fun z => br_f (by decide) (h k (by omega) hj (Or.inr z) _ _ _ _ _ _ hX)))
    refine xx_takeLastDigit_left hR hR2 (by omega) ho2 H b1 (fun l1 H1 => nm_r (nI_1 k) ?_)
    rw [← rb_dv] at H1
    refine xl_lengthIn hR hR2 hX hv ho ho2 h d (k + 1) l1 (by omega) H1 (fun j hj2 => ?_)
    by_cases e9 : j = k
    · rw [e9]
      exact z
    · exact hj j (by omega)
theorem xx_lengthIn {post : Int32 → SX → Prop} {c l r q s p : Nat → Int32} {R a o : Nat} {V : Nat → Nat} (hR : 2 ≤ R) (hR2 : R ≤ 36) (hB : rb_B R V) (hX : rb_X R V c) (ha : a < 4) (ho : 2 ≤ o) (ho2 : o ≤ 36)
    (h : ∀ n, n ≤ 128 → (∀ j, j < n → V a / o ^ j ≠ 0) → (n = 128 ∨ V a / o ^ n = 0) → rb_PX R V (post (nI n))) : wpX_lengthIn post (nI R, c, l, r, q, s, p) (nI a) (nI o) := by
  unfold wpX_lengthIn
  dsimp only
  refine xx_reg ha (br_f (by decide) (xx_radix ho ho2 (br_f (by decide) ?_)))
  refine xx_load_left ha hR (hX a ha) (hB a ha) (fun l1 Hl => ?_)
  exact ⟨129, xl_lengthIn hR hR2 hX (hB a ha) ho ho2 h 128 0 l1 (by omega) (by rw [Nat.pow_zero, Nat.div_one]; exact Hl) (fun j z => absurd z (by omega))⟩
theorem xl_remainder {post : Int32 → Prop} {c l r q s p : Nat → Int32} {R v a m : Nat} (hR : 2 ≤ R) (hR2 : R ≤ 36) (ha : a < 4) (H : rb_H R c (24 * a) 24 v) (hm : 0 < m) (hm2 : m ≤ 1000000)
    (h : post (nI (v % m))) : ∀ e, e ≤ 24 → wX_remainder_29 post (nI a) (nI m) (nI R) c l r q s p (e + 1) (nI (v / R ^ e % m)) (nI e + (-1))
  | 0, _ => br_t (by rw [nI_0]; decide) (by rw [Nat.pow_zero, Nat.div_one]; exact h)
  | e + 1, l9 => by
    rw [pk_m1]
    have b1 := rb_lt hR v e
    have b2 := Nat.mod_lt (v / R ^ (e + 1)) hm
    have b3 := rb_ldb hR hm v e
    have b4 : m * R ≤ 1000000 * 36 := Nat.mul_le_mul hm2 hR2
    have ih := xl_remainder (l := l) (r := r) (q := q) (s := s) (p := p) hR hR2 ha H hm hm2 h e (by omega)
    rw [← rb_ldr hm] at ih
    have r1 : c (nI a * 24 + nI e).toNatClampNeg = nI (rb_dg R v e) := rb_rH H (by omega) (rb_x24 a e) (by omega)
    exact br_f (nI_pos (by omega)) ⟨pk_in (24 * a + e) 96 (by omega) (rb_x24 a e), nI_ne0 hm (by omega), nm_r (e' := nI ((v / R ^ (e + 1) % m * R + rb_dg R v e) % m)) (by rw [r1, pk_mul, nI_add, pk_rem (by omega) hm (by omega)]) (nm_e ih)⟩
theorem xx_remainder {post : Int32 → Prop} {c l r q s p : Nat → Int32} {R a m : Nat} {V : Nat → Nat} (hR : 2 ≤ R) (hR2 : R ≤ 36) (hB : rb_B R V) (hX : rb_X R V c) (ha : a < 4) (hm : 0 < m) (hm2 : m ≤ 1000000)
    (h : post (nI (V a % m))) : wpX_remainder post (nI R, c, l, r, q, s, p) (nI a) (nI m) := by
  unfold wpX_remainder
  dsimp only
  have w := xl_remainder (l := l) (r := r) (q := q) (s := s) (p := p) hR hR2 ha (hX a ha) hm hm2 h 24 (by omega)
  rw [Nat.div_eq_of_lt (hB a ha), Nat.zero_mod] at w
  exact xx_reg ha (br_f (by decide) (br_f (nI_nlt (b := 1) hm (by omega)) (br_t (nI_le (b := 1000000) hm2 (by decide)) ⟨25, w⟩)))
theorem xl_length {post : Int32 → Prop} {c l r q s p : Nat → Int32} {R v a : Nat} (hR : 2 ≤ R) (hR2 : R ≤ 36) (ha : a < 4) (H : rb_H R c (24 * a) 24 v)
    (h : ∀ n, n ≤ 24 → (∀ i, n ≤ i → i < 24 → rb_dg R v i = 0) → (0 < n → rb_dg R v (n - 1) ≠ 0) → post (nI n)) : ∀ e, e ≤ 24 → (∀ i, e ≤ i → i < 24 → rb_dg R v i = 0) → wX_length_12 post (nI a) (nI R) c l r q s p (e + 1) (nI e)
  | 0, _, z => br_t (by rw [nI_0]; decide) (h 0 (by omega) z (fun y => absurd y (by omega)))
  | e + 1, l9, z => by
    have x1 : nI a * 24 + nI (e + 1) - 1 = nI (24 * a + e) := by
      rw [rb_x24, ← Nat.add_assoc, nI_pred]
    have b1 := rb_dgb hR hR2 v e
    refine br_f (nI_nle (by omega) (by omega)) ⟨pk_in (24 * a + e) 96 (by omega) x1, pk_eq (rb_dg R v e) 0 (fun k => nm_r (pk_m1 e) (xl_length hR hR2 ha H h e (by omega) (fun i i1 i2 => ?_))) (fun k => h (e + 1) l9 z (fun _ => k)) (rb_rH H (by omega) x1 (by omega))⟩
    by_cases e9 : i = e
    · rw [e9]
      exact k
    · exact z i (by omega) i2
theorem xx_length {post : Int32 → Prop} {c l r q s p : Nat → Int32} {R a : Nat} {V : Nat → Nat} (hR : 2 ≤ R) (hR2 : R ≤ 36) (hX : rb_X R V c) (ha : a < 4)
    (h : ∀ n, n ≤ 24 → (∀ i, n ≤ i → i < 24 → rb_dg R (V a) i = 0) → (0 < n → rb_dg R (V a) (n - 1) ≠ 0) → post (nI n)) : wpX_length post (nI R, c, l, r, q, s, p) (nI a) := by
  unfold wpX_length
  dsimp only
  exact xx_reg ha (br_f (by decide) ⟨25, xl_length hR hR2 ha (hX a ha) h 24 (Nat.le_refl 24) (fun i i1 i2 => absurd i2 (by omega))⟩)
theorem xx_digitAt {post : Int32 → Prop} {c l r q s p : Nat → Int32} {R a i : Nat} {V : Nat → Nat} (hX : rb_X R V c) (ha : a < 4) (hi : i < 24)
    (h : post (nI (rb_dg R (V a) i))) : wpX_digit post (nI R, c, l, r, q, s, p) (nI a) (nI i) := by
  unfold wpX_digit
  dsimp only
  refine xx_reg ha (br_f (by decide) (xx_place hi (br_f (by decide) ⟨pk_in (24 * a + i) 96 (by omega) (rb_x24 a i), ?_⟩)))
  rw [rb_rH (hX a ha) hi (rb_x24 a i) (by omega)]
  exact h
/-- one digit is written anew -/
theorem rb_set {R v i d : Nat} (hR : 2 ≤ R) (hv : v < R ^ 24) (hi : i < 24) (hd : d < R) : ∃ n, n < R ^ 24 ∧ ∀ k, rb_dg R n k = if k = i then d else rb_dg R v k := by
  obtain ⟨n, h1, h2⟩ := rb_mk hR (fun k => if k = i then d else rb_dg R v k) 24 (fun k _ => by
    show (if k = i then d else rb_dg R v k) < R
    by_cases e : k = i
    · rw [if_pos e]
      exact hd
    · rw [if_neg e]
      exact rb_lt hR v k)
  refine ⟨n, h1, fun k => ?_⟩
  by_cases c : k < 24
  · exact h2 k c
  · rw [if_neg (by omega), rb_hi hR h1 (by omega), rb_hi hR hv (by omega)]
theorem rb_setH {R v n i d o m : Nat} {a : Nat → Int32} (H : rb_H R a o m v) (h : ∀ k, rb_dg R n k = if k = i then d else rb_dg R v k) : rb_H R (upd a (o + i) (nI d)) o m n := by
  intro k hk
  rw [h k]
  by_cases e : k = i
  · rw [e, pk_us, if_pos rfl]
  · rw [pk_un (by omega), if_neg e, H k hk]
theorem xx_set {post : Int32 → SX → Prop} {c l r q s p : Nat → Int32} {R a i d n : Nat} {V : Nat → Nat} (hR2 : R ≤ 36) (hX : rb_X R V c) (ha : a < 4) (hi : i < 24) (hd : d < R) (hn : ∀ k, rb_dg R n k = if k = i then d else rb_dg R (V a) k)
    (h : rb_PX R (rb_up V a n) (post (nI (rb_dg R (V a) i)))) : wpX_set post (nI R, c, l, r, q, s, p) (nI a) (nI i) (nI d) := by
  unfold wpX_set
  dsimp only
  refine xx_reg ha (br_f (by decide) (xx_place hi (br_f (by decide) (xx_digit hR2 hd (br_f (by decide) ?_)))))
  refine nm_r (rb_x24 a i) ⟨pk_in (24 * a + i) 96 (by omega), nm_r (rb_rH (hX a ha) hi rfl (by omega)) ⟨pk_in (24 * a + i) 96 (by omega), nm_r (e' := upd c (24 * a + i) (nI d)) (by rw [nI_clamp (by omega)]) ?_⟩⟩
  exact h _ _ _ _ _ _ (rb_Xs hX (rb_setH (hX a ha) hn) (fun j hj => if_neg (by omega)))
