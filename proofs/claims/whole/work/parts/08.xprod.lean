theorem xl_fpC_left_right {post : SX → Prop} {c l r q s p : Nat → Int32} {R v w : Nat} {m : Nat → Nat} (hR : 2 ≤ R) (hR2 : R ≤ 36) (h1 : ∀ k, k < 48 → p k = nI (m k)) (h2 : ∀ k, k < 48 → m k ≤ 705600) (h3 : rb_cs R m 48 = v * w)
    (h : post (nI R, c, l, r, q, s, rb_ov p 0 0 48 (fun k => nI (rb_dg R (v * w) k)))) :
    ∀ d i, i + d = 48 → wX_formProduct__left_right_76 post (nI R) (d + 1) (nI (rb_cs R m i / R ^ i)) (nI i) c l r q s (rb_ov p 0 0 i (fun k => nI (rb_dg R (v * w) k)))
  | 0, i, e => br_t (nI_le (a := 48) (by omega) (by omega)) (by
      have e2 : i = 48 := by omega
      subst e2
      exact h)
  | d + 1, i, e => by
    have b1 := h2 i (by omega)
    have b2 := rb_ccb (B := 705600) hR m i (fun k hk => h2 k (by omega))
    have ih := xl_fpC_left_right hR hR2 h1 h2 h3 h d (i + 1) (by omega)
    rw [rb_cc hR] at ih
    have m1 := rb_cdn hR m (by omega : i < 48)
    rw [h3] at m1
    have r1 : rb_ov p 0 0 i (fun k => nI (rb_dg R (v * w) k)) (nI i).toNatClampNeg = nI (m i) := by
      rw [rb_ci rfl (by omega), rb_ovO (by omega), h1 i (by omega)]
    exact br_f (nI_ge (b := 48) (by omega) (by decide)) ⟨pk_in i 48 (by omega), nm_r (e' := nI (m i + rb_cs R m i / R ^ i)) (by rw [r1, nI_add])
      ⟨nI_ne0 (by omega) (by omega), pk_in i 48 (by omega), nm_r (rb_wu0 rfl (by omega) (by rw [pk_rem (by omega) (by omega) (by omega), ← m1]) (Nat.zero_le i)) ⟨nI_ne0 (by omega) (by omega), nm_r (pk_div (by omega) (by omega) (by omega)) (nm_r (nI_1 i) ih)⟩⟩⟩
theorem xl_fpJ_left_right {post : SX → Prop} {J : Int32 → (Nat → Int32) → (Nat → Int32) → (Nat → Int32) → (Nat → Int32) → (Nat → Int32) → (Nat → Int32) → Prop} {c l r q s : Nat → Int32} {R v w i : Nat} (hR : 2 ≤ R) (hR2 : R ≤ 36)
    (Hv : rb_H R l 0 25 v) (Hw : rb_H R r 0 25 w) (hw : w < R ^ 24) (hi : i < 24) (hJ : ∀ p', rb_G R v w (i + 1) 0 p' → J (nI (i + 1)) c l r q s p') :
    ∀ d j p, j + d = 24 → rb_G R v w i j p → wX_formProduct__left_right_32 post J (nI i) (nI R) (d + 1) (nI j) c l r q s p
  | 0, j, p, e, G => br_t (nI_le (a := 24) (by omega) (by omega)) (nm_r (nI_1 i) (by
      have e2 : j = 24 := by omega
      subst e2
      exact hJ p (rb_Ge hw G)))
  | d + 1, j, p, e, G => by
    have r1 : l (nI i).toNatClampNeg = nI (rb_dg R v i) := rb_rH0 Hv (by omega) rfl (by omega)
    have r2 : r (nI j).toNatClampNeg = nI (rb_dg R w j) := rb_rH0 Hw (by omega) rfl (by omega)
    have ih := xl_fpJ_left_right (post := post) hR hR2 Hv Hw hw hi hJ d (j + 1) _ (by omega) (rb_Gs hR hR2 hi (by omega) G)
    exact br_f (nI_ge (b := 24) (by omega) (by decide)) ⟨pk_in (i + j) 48 (by omega) (nI_add i j), pk_in i 25 (by omega), pk_in j 25 (by omega), pk_in (i + j) 48 (by omega) (nI_add i j),
      nm_r (by rw [r1, r2, nI_add, nI_clamp (by omega)]) (nm_r (nI_1 j) ih)⟩
theorem xl_fpI_left_right {post : SX → Prop} {c l r q s : Nat → Int32} {R v w : Nat} (hR : 2 ≤ R) (hR2 : R ≤ 36)
    (Hv : rb_H R l 0 25 v) (Hw : rb_H R r 0 25 w) (hv : v < R ^ 24) (hw : w < R ^ 24) (h : ∀ p', rb_H R p' 0 48 (v * w) → post (nI R, c, l, r, q, s, p')) :
    ∀ d i p, i + d = 24 → rb_G R v w i 0 p → wX_formProduct__left_right_23 post (nI R) (d + 1) (nI i) c l r q s p
  | 0, i, p, e, G => br_t (nI_le (a := 24) (by omega) (by omega)) (by
      have e2 : i = 24 := by omega
      subst e2
      obtain ⟨m, h1, h2, h3⟩ := rb_GE hv G
      have g := h (rb_ov p 0 0 48 (fun k => nI (rb_dg R (v * w) k))) (rb_ovF (fun i hi => rfl))
      have x := xl_fpC_left_right hR hR2 h1 h2 h3 g 48 0 (by omega)
      rw [rb_ovE] at x
      have z : rb_cs R m 0 / R ^ 0 = 0 := Nat.zero_div _
      rw [z] at x
      exact ⟨_, x⟩)
  | d + 1, i, p, e, G => br_f (nI_ge (b := 24) (by omega) (by decide)) ⟨25,
      xl_fpJ_left_right hR hR2 Hv Hw hw (by omega) (fun p' G' => xl_fpI_left_right hR hR2 Hv Hw hv hw h d (i + 1) p' (by omega) G') 24 0 p (by omega) G⟩
theorem xl_fpZ_left_right {post : SX → Prop} {c l r q s p : Nat → Int32} {R v w : Nat} (hR : 2 ≤ R) (hR2 : R ≤ 36)
    (Hv : rb_H R l 0 25 v) (Hw : rb_H R r 0 25 w) (hv : v < R ^ 24) (hw : w < R ^ 24) (h : ∀ p', rb_H R p' 0 48 (v * w) → post (nI R, c, l, r, q, s, p')) :
    ∀ d i, i + d = 48 → wX_formProduct__left_right_2 post (nI R) (d + 1) (nI i) c l r q s (rb_ov p 0 0 i (fun _ => 0))
  | 0, i, e => br_t (nI_le (a := 48) (by omega) (by omega)) ⟨25, by
      have e2 : i = 48 := by omega
      subst e2
      exact xl_fpI_left_right hR hR2 Hv Hw hv hw h 24 0 _ (by omega) (rb_G0 (fun k hk => rb_ovI0 (Nat.zero_le k) hk))⟩
  | d + 1, i, e => br_f (nI_ge (b := 48) (by omega) (by decide))
      ⟨pk_in i 48 (by omega), nm_r (rb_wu0 rfl (by omega) rfl (Nat.zero_le i))
          (nm_r (nI_1 i) (xl_fpZ_left_right hR hR2 Hv Hw hv hw h d (i + 1) (by omega)))⟩
theorem xx_formProduct_left_right {post : SX → Prop} {c l r q s p : Nat → Int32} {R v w : Nat} (hR : 2 ≤ R) (hR2 : R ≤ 36)
    (Hv : rb_H R l 0 25 v) (Hw : rb_H R r 0 25 w) (hv : v < R ^ 24) (hw : w < R ^ 24) (h : ∀ p', rb_H R p' 0 48 (v * w) → post (nI R, c, l, r, q, s, p')) :
    wpX_formProduct__left_right post (nI R, c, l, r, q, s, p) := by
  have x := xl_fpZ_left_right (p := p) (s := s) (q := q) (c := c) hR hR2 Hv Hw hv hw h 48 0 (by omega)
  rw [rb_ovE] at x
  exact ⟨_, x⟩
theorem xl_fpC_right_right {post : SX → Prop} {c l r q s p : Nat → Int32} {R v w : Nat} {m : Nat → Nat} (hR : 2 ≤ R) (hR2 : R ≤ 36) (h1 : ∀ k, k < 48 → p k = nI (m k)) (h2 : ∀ k, k < 48 → m k ≤ 705600) (h3 : rb_cs R m 48 = v * w)
    (h : post (nI R, c, l, r, q, s, rb_ov p 0 0 48 (fun k => nI (rb_dg R (v * w) k)))) :
    ∀ d i, i + d = 48 → wX_formProduct__right_right_76 post (nI R) (d + 1) (nI (rb_cs R m i / R ^ i)) (nI i) c l r q s (rb_ov p 0 0 i (fun k => nI (rb_dg R (v * w) k)))
  | 0, i, e => br_t (nI_le (a := 48) (by omega) (by omega)) (by
      have e2 : i = 48 := by omega
      subst e2
      exact h)
  | d + 1, i, e => by
    have b1 := h2 i (by omega)
    have b2 := rb_ccb (B := 705600) hR m i (fun k hk => h2 k (by omega))
    have ih := xl_fpC_right_right hR hR2 h1 h2 h3 h d (i + 1) (by omega)
    rw [rb_cc hR] at ih
    have m1 := rb_cdn hR m (by omega : i < 48)
    rw [h3] at m1
    have r1 : rb_ov p 0 0 i (fun k => nI (rb_dg R (v * w) k)) (nI i).toNatClampNeg = nI (m i) := by
      rw [rb_ci rfl (by omega), rb_ovO (by omega), h1 i (by omega)]
    exact br_f (nI_ge (b := 48) (by omega) (by decide)) ⟨pk_in i 48 (by omega), nm_r (e' := nI (m i + rb_cs R m i / R ^ i)) (by rw [r1, nI_add])
      ⟨nI_ne0 (by omega) (by omega), pk_in i 48 (by omega), nm_r (rb_wu0 rfl (by omega) (by rw [pk_rem (by omega) (by omega) (by omega), ← m1]) (Nat.zero_le i)) ⟨nI_ne0 (by omega) (by omega), nm_r (pk_div (by omega) (by omega) (by omega)) (nm_r (nI_1 i) ih)⟩⟩⟩
theorem xl_fpJ_right_right {post : SX → Prop} {J : Int32 → (Nat → Int32) → (Nat → Int32) → (Nat → Int32) → (Nat → Int32) → (Nat → Int32) → (Nat → Int32) → Prop} {c l r q s : Nat → Int32} {R v w i : Nat} (hR : 2 ≤ R) (hR2 : R ≤ 36)
    (Hv : rb_H R r 0 25 v) (Hw : rb_H R r 0 25 w) (hw : w < R ^ 24) (hi : i < 24) (hJ : ∀ p', rb_G R v w (i + 1) 0 p' → J (nI (i + 1)) c l r q s p') :
    ∀ d j p, j + d = 24 → rb_G R v w i j p → wX_formProduct__right_right_32 post J (nI i) (nI R) (d + 1) (nI j) c l r q s p
  | 0, j, p, e, G => br_t (nI_le (a := 24) (by omega) (by omega)) (nm_r (nI_1 i) (by
      have e2 : j = 24 := by omega
      subst e2
      exact hJ p (rb_Ge hw G)))
  | d + 1, j, p, e, G => by
    have r1 : r (nI i).toNatClampNeg = nI (rb_dg R v i) := rb_rH0 Hv (by omega) rfl (by omega)
    have r2 : r (nI j).toNatClampNeg = nI (rb_dg R w j) := rb_rH0 Hw (by omega) rfl (by omega)
    have ih := xl_fpJ_right_right (post := post) hR hR2 Hv Hw hw hi hJ d (j + 1) _ (by omega) (rb_Gs hR hR2 hi (by omega) G)
    exact br_f (nI_ge (b := 24) (by omega) (by decide)) ⟨pk_in (i + j) 48 (by omega) (nI_add i j), pk_in i 25 (by omega), pk_in j 25 (by omega), pk_in (i + j) 48 (by omega) (nI_add i j),
      nm_r (by rw [r1, r2, nI_add, nI_clamp (by omega)]) (nm_r (nI_1 j) ih)⟩
theorem xl_fpI_right_right {post : SX → Prop} {c l r q s : Nat → Int32} {R v w : Nat} (hR : 2 ≤ R) (hR2 : R ≤ 36)
    (Hv : rb_H R r 0 25 v) (Hw : rb_H R r 0 25 w) (hv : v < R ^ 24) (hw : w < R ^ 24) (h : ∀ p', rb_H R p' 0 48 (v * w) → post (nI R, c, l, r, q, s, p')) :
    ∀ d i p, i + d = 24 → rb_G R v w i 0 p → wX_formProduct__right_right_23 post (nI R) (d + 1) (nI i) c l r q s p
  | 0, i, p, e, G => br_t (nI_le (a := 24) (by omega) (by omega)) (by
      have e2 : i = 24 := by omega
      subst e2
      obtain ⟨m, h1, h2, h3⟩ := rb_GE hv G
      have g := h (rb_ov p 0 0 48 (fun k => nI (rb_dg R (v * w) k))) (rb_ovF (fun i hi => rfl))
      have x := xl_fpC_right_right hR hR2 h1 h2 h3 g 48 0 (by omega)
      rw [rb_ovE] at x
      have z : rb_cs R m 0 / R ^ 0 = 0 := Nat.zero_div _
      rw [z] at x
      exact ⟨_, x⟩)
  | d + 1, i, p, e, G => br_f (nI_ge (b := 24) (by omega) (by decide)) ⟨25,
      xl_fpJ_right_right hR hR2 Hv Hw hw (by omega) (fun p' G' => xl_fpI_right_right hR hR2 Hv Hw hv hw h d (i + 1) p' (by omega) G') 24 0 p (by omega) G⟩
theorem xl_fpZ_right_right {post : SX → Prop} {c l r q s p : Nat → Int32} {R v w : Nat} (hR : 2 ≤ R) (hR2 : R ≤ 36)
    (Hv : rb_H R r 0 25 v) (Hw : rb_H R r 0 25 w) (hv : v < R ^ 24) (hw : w < R ^ 24) (h : ∀ p', rb_H R p' 0 48 (v * w) → post (nI R, c, l, r, q, s, p')) :
    ∀ d i, i + d = 48 → wX_formProduct__right_right_2 post (nI R) (d + 1) (nI i) c l r q s (rb_ov p 0 0 i (fun _ => 0))
  | 0, i, e => br_t (nI_le (a := 48) (by omega) (by omega)) ⟨25, by
      have e2 : i = 48 := by omega
      subst e2
      exact xl_fpI_right_right hR hR2 Hv Hw hv hw h 24 0 _ (by omega) (rb_G0 (fun k hk => rb_ovI0 (Nat.zero_le k) hk))⟩
  | d + 1, i, e => br_f (nI_ge (b := 48) (by omega) (by decide))
      ⟨pk_in i 48 (by omega), nm_r (rb_wu0 rfl (by omega) rfl (Nat.zero_le i))
          (nm_r (nI_1 i) (xl_fpZ_right_right hR hR2 Hv Hw hv hw h d (i + 1) (by omega)))⟩
theorem xx_formProduct_right_right {post : SX → Prop} {c l r q s p : Nat → Int32} {R v w : Nat} (hR : 2 ≤ R) (hR2 : R ≤ 36)
    (Hv : rb_H R r 0 25 v) (Hw : rb_H R r 0 25 w) (hv : v < R ^ 24) (hw : w < R ^ 24) (h : ∀ p', rb_H R p' 0 48 (v * w) → post (nI R, c, l, r, q, s, p')) :
    wpX_formProduct__right_right post (nI R, c, l, r, q, s, p) := by
  have x := xl_fpZ_right_right (p := p) (s := s) (q := q) (c := c) hR hR2 Hv Hw hv hw h 48 0 (by omega)
  rw [rb_ovE] at x
  exact ⟨_, x⟩
theorem xl_tooLong {post : Int32 → Prop} {F : Int32} {c l r q s p : Nat → Int32} {R v : Nat} (hR : 2 ≤ R) (hR2 : R ≤ 36) (Hv : rb_H R p 0 48 v) (hv : v < R ^ 48)
    (h0 : v < R ^ 24 → post 0) (h1 : R ^ 24 ≤ v → post 1) :
    ∀ d i, i + d = 48 → 24 ≤ i → (∀ k, 24 ≤ k → k < i → rb_dg R v k = 0) → wX_productIsTooLong_3 post F c l r q s p (d + 1) (nI i)
  | 0, i, e, _, z => br_t (nI_le (a := 48) (by omega) (by omega)) (h0 (rb_top (m := 24) hR 24 hv (fun k k1 k2 => z k k1 (by omega))))
  | d + 1, i, e, l9, z => br_f (nI_ge (b := 48) (by omega) (by decide))
      ⟨pk_in i 48 (by omega), by
        have b1 := rb_dgb hR hR2 v i
        refine pk_eq (rb_dg R v i) 0 (fun c9 => nm_r (nI_1 i) (xl_tooLong hR hR2 Hv hv h0 h1 d (i + 1) (by omega) (by omega) ?_)) (fun c9 => h1 (rb_big hR l9 c9)) (rb_rH0 Hv (by omega) rfl (by omega))
        intro k k1 k2
        by_cases e9 : k = i
        · rw [e9]
          exact c9
        · exact z k k1 (by omega)⟩
theorem xx_tooLong {post : Int32 → Prop} {F : Int32} {c l r q s p : Nat → Int32} {R v : Nat} (hR : 2 ≤ R) (hR2 : R ≤ 36) (Hv : rb_H R p 0 48 v) (hv : v < R ^ 48)
    (h0 : v < R ^ 24 → post 0) (h1 : R ^ 24 ≤ v → post 1) : wpX_productIsTooLong post (F, c, l, r, q, s, p) :=
  ⟨_, xl_tooLong hR hR2 Hv hv h0 h1 24 24 (by omega) (by omega) (fun k k1 k2 => absurd k2 (by omega))⟩
/-! takeOut, formQuotient -/
theorem xl_takeOut {post : Int32 → SX → Prop} {c l r q p : Nat → Int32} {R x w : Nat} (hR : 2 ≤ R) (hR2 : R ≤ 36) (Hw : rb_H R r 0 25 w) (hw0 : 0 < w) (hw : w < R ^ 24) (hx : x < w * R)
    (h : ∀ s', rb_H R s' 0 25 (x % w) → post (nI (x / w)) (nI R, c, l, r, q, s', p)) :
    ∀ d m s, m + d = x / w → rb_H R s 0 25 (x - m * w) → wX_takeOut__rest_right_2 post (d + 1) (nI m) (nI R) c l r q s p
  | 0, m, s, e, H => by
    have e2 : m = x / w := by omega
    subst e2
    have b1 := rb_qb hw0 hx
    rw [rb_tl hw0] at H
    have b2 : x % w < w := Nat.mod_lt x hw0
    have b3 : w < R ^ 25 := Nat.lt_of_lt_of_le hw (rb_pm hR (by omega))
    refine br_f (nI_ge b1 (by omega)) (xx_order_rest_right hR hR2 H Hw (Nat.lt_trans b2 b3) b3 (fun z => absurd z (by omega)) (fun z => absurd z (by omega)) (fun _ => ?_))
    exact br_t rfl (h s H)
  | d + 1, m, s, e, H => by
    have b1 := rb_qb hw0 hx
    have b3 : w < R ^ 25 := Nat.lt_of_lt_of_le hw (rb_pm hR (by omega))
    have b4 : x < R ^ 25 := rb_xb hw hx
    obtain ⟨t1, t2⟩ := rb_to (x := x) (m := m) hw0 (by omega)
    have ih : ∀ s', rb_H R s' 0 25 (x - m * w - w) → wX_takeOut__rest_right_2 post (d + 1) (nI m + 1) (nI R) c l r q s' p := by
      intro s' H'
      rw [t2] at H'
      rw [nI_1]
      exact xl_takeOut hR hR2 Hw hw0 hw hx h d (m + 1) s' (by omega) H'
    refine br_f (nI_ge (by omega) (by omega)) (xx_order_rest_right hR hR2 H Hw (by omega) b3 (fun z => ?_) (fun z => ?_) (fun z => absurd z (by omega)))
    all_goals
      exact br_f (by decide) (xx_decrease_rest_right hR hR2 H Hw t1 (fun s' H' => nm_e (ih s' H')))
theorem xx_takeOut {post : Int32 → SX → Prop} {c l r q s p : Nat → Int32} {R x w : Nat} (hR : 2 ≤ R) (hR2 : R ≤ 36) (H : rb_H R s 0 25 x) (Hw : rb_H R r 0 25 w) (hw0 : 0 < w) (hw : w < R ^ 24) (hx : x < w * R)
    (h : ∀ s', rb_H R s' 0 25 (x % w) → post (nI (x / w)) (nI R, c, l, r, q, s', p)) : wpX_takeOut__rest_right post (nI R, c, l, r, q, s, p) :=
  ⟨_, xl_takeOut hR hR2 Hw hw0 hw hx h (x / w) 0 s (by omega) (by rw [Nat.zero_mul, Nat.sub_zero]; exact H)⟩
