theorem rb_ovI0 {a : Nat → Int32} {lo hi k : Nat} {g : Nat → Int32} (h1 : lo ≤ k) (h2 : k < hi) : rb_ov a 0 lo hi g k = g k := by
  have := rb_ovI (a := a) (o := 0) (g := g) h1 h2
  rw [Nat.zero_add] at this
  exact this
theorem rb_ovH0 {R : Nat} {a : Nat → Int32} {lo hi n v : Nat} {g : Nat → Int32} {i : Nat} (H : rb_H R a 0 n v) (hi2 : i < n) (h : i < lo ∨ hi ≤ i) : rb_ov a 0 lo hi g i = nI (rb_dg R v i) := by
  rw [rb_ovO (by omega), rb_H0 H hi2]
/-- all but register t is as it was -/
def rb_KX (t : Nat) (a b : Nat → Int32) : Prop := ∀ j, (j < 24 * t ∨ 24 * t + 24 ≤ j) → b j = a j
theorem rb_KXH {R t r v : Nat} {a b : Nat → Int32} (k : rb_KX t a b) (h : r ≠ t) (H : rb_H R a (24 * r) 24 v) : rb_H R b (24 * r) 24 v := by
  intro i hi
  rw [k (24 * r + i) (by omega), H i hi]
theorem rb_close {R : Nat} (hR : 2 ≤ R) {a : Nat → Int32} {v : Nat} (H : rb_H R a 0 24 v) (hv : v < R ^ 24) : rb_H R (upd a 24 0) 0 25 v := by
  refine rb_H0i (fun i hi => ?_)
  by_cases e : i = 24
  · rw [e, pk_us, rb_hi hR hv (Nat.le_refl 24)]
    rfl
  · rw [pk_un e, rb_H0 H (by omega)]
theorem xl_load_left {post : SX → Prop} {F : Int32} {c l r q s p : Nat → Int32} {a : Nat} (ha : a < 4)
    (h : post (F, c, upd (rb_ov l 0 0 24 (fun k => c (24 * a + k))) 24 0, r, q, s, p)) :
    ∀ d i, i + d = 24 → wX_load__left_2 post (nI a) F (d + 1) (nI i) c (rb_ov l 0 0 i (fun k => c (24 * a + k))) r q s p
  | 0, i, e => br_t (nI_le (a := 24) (by omega) (by omega)) (nm_e (by
      have e2 : i = 24 := by omega
      subst e2
      exact h))
  | d + 1, i, e => br_f (nI_ge (b := 24) (by omega) (by decide))
      ⟨pk_in (24 * a + i) 96 (by omega) (rb_x24 a i), pk_in i 25 (by omega),
        nm_r (rb_wu0 rfl (by omega) (by rw [rb_ci (rb_x24 a i) (by omega)]) (Nat.zero_le i))
          (nm_r (nI_1 i) (xl_load_left ha h d (i + 1) (by omega)))⟩
theorem xx_load_left {post : SX → Prop} {F : Int32} {c l r q s p : Nat → Int32} {a R v : Nat} (ha : a < 4) (hR : 2 ≤ R) (H : rb_H R c (24 * a) 24 v) (hv : v < R ^ 24)
    (h : ∀ l', rb_H R l' 0 25 v → post (F, c, l', r, q, s, p)) : wpX_load__left post (F, c, l, r, q, s, p) (nI a) := by
  have g := h (upd (rb_ov l 0 0 24 (fun k => c (24 * a + k))) 24 0) (rb_close hR (rb_ovF (fun i hi => H i hi)) hv)
  have w := xl_load_left ha g 24 0 (by omega)
  rw [rb_ovE] at w
  exact ⟨_, w⟩
theorem xl_load_right {post : SX → Prop} {F : Int32} {c l r q s p : Nat → Int32} {a : Nat} (ha : a < 4)
    (h : post (F, c, l, upd (rb_ov r 0 0 24 (fun k => c (24 * a + k))) 24 0, q, s, p)) :
    ∀ d i, i + d = 24 → wX_load__right_2 post (nI a) F (d + 1) (nI i) c l (rb_ov r 0 0 i (fun k => c (24 * a + k))) q s p
  | 0, i, e => br_t (nI_le (a := 24) (by omega) (by omega)) (nm_e (by
      have e2 : i = 24 := by omega
      subst e2
      exact h))
  | d + 1, i, e => br_f (nI_ge (b := 24) (by omega) (by decide))
      ⟨pk_in (24 * a + i) 96 (by omega) (rb_x24 a i), pk_in i 25 (by omega),
        nm_r (rb_wu0 rfl (by omega) (by rw [rb_ci (rb_x24 a i) (by omega)]) (Nat.zero_le i))
          (nm_r (nI_1 i) (xl_load_right ha h d (i + 1) (by omega)))⟩
theorem xx_load_right {post : SX → Prop} {F : Int32} {c l r q s p : Nat → Int32} {a R v : Nat} (ha : a < 4) (hR : 2 ≤ R) (H : rb_H R c (24 * a) 24 v) (hv : v < R ^ 24)
    (h : ∀ r', rb_H R r' 0 25 v → post (F, c, l, r', q, s, p)) : wpX_load__right post (F, c, l, r, q, s, p) (nI a) := by
  have g := h (upd (rb_ov r 0 0 24 (fun k => c (24 * a + k))) 24 0) (rb_close hR (rb_ovF (fun i hi => H i hi)) hv)
  have w := xl_load_right ha g 24 0 (by omega)
  rw [rb_ovE] at w
  exact ⟨_, w⟩
theorem xl_store_left {post : SX → Prop} {F : Int32} {c l r q s p : Nat → Int32} {a : Nat} (ha : a < 4)
    (h : post (F, rb_ov c (24 * a) 0 24 (fun k => l k), l, r, q, s, p)) :
    ∀ d i, i + d = 24 → wX_store__left_2 post (nI a) F (d + 1) (nI i) (rb_ov c (24 * a) 0 i (fun k => l k)) l r q s p
  | 0, i, e => br_t (nI_le (a := 24) (by omega) (by omega)) (by
      have e2 : i = 24 := by omega
      subst e2
      exact h)
  | d + 1, i, e => br_f (nI_ge (b := 24) (by omega) (by decide))
      ⟨pk_in i 25 (by omega), pk_in (24 * a + i) 96 (by omega) (rb_x24 a i),
        nm_r (rb_wu (rb_x24 a i) (by omega) (by rw [rb_ci rfl (by omega)]) (Nat.zero_le i))
          (nm_r (nI_1 i) (xl_store_left ha h d (i + 1) (by omega)))⟩
theorem xx_store_left {post : SX → Prop} {F : Int32} {c l r q s p : Nat → Int32} {a R v : Nat} (ha : a < 4) (H : rb_H R l 0 24 v)
    (h : ∀ c', rb_H R c' (24 * a) 24 v → rb_KX a c c' → post (F, c', l, r, q, s, p)) : wpX_store__left post (F, c, l, r, q, s, p) (nI a) := by
  have g := h (rb_ov c (24 * a) 0 24 (fun k => l k)) (rb_ovF (fun i hi => rb_H0 H hi)) (fun j hj => rb_ovO (by omega))
  have w := xl_store_left ha g 24 0 (by omega)
  rw [rb_ovE] at w
  exact ⟨_, w⟩
theorem xl_store_right {post : SX → Prop} {F : Int32} {c l r q s p : Nat → Int32} {a : Nat} (ha : a < 4)
    (h : post (F, rb_ov c (24 * a) 0 24 (fun k => r k), l, r, q, s, p)) :
    ∀ d i, i + d = 24 → wX_store__right_2 post (nI a) F (d + 1) (nI i) (rb_ov c (24 * a) 0 i (fun k => r k)) l r q s p
  | 0, i, e => br_t (nI_le (a := 24) (by omega) (by omega)) (by
      have e2 : i = 24 := by omega
      subst e2
      exact h)
  | d + 1, i, e => br_f (nI_ge (b := 24) (by omega) (by decide))
      ⟨pk_in i 25 (by omega), pk_in (24 * a + i) 96 (by omega) (rb_x24 a i),
        nm_r (rb_wu (rb_x24 a i) (by omega) (by rw [rb_ci rfl (by omega)]) (Nat.zero_le i))
          (nm_r (nI_1 i) (xl_store_right ha h d (i + 1) (by omega)))⟩
theorem xx_store_right {post : SX → Prop} {F : Int32} {c l r q s p : Nat → Int32} {a R v : Nat} (ha : a < 4) (H : rb_H R r 0 24 v)
    (h : ∀ c', rb_H R c' (24 * a) 24 v → rb_KX a c c' → post (F, c', l, r, q, s, p)) : wpX_store__right post (F, c, l, r, q, s, p) (nI a) := by
  have g := h (rb_ov c (24 * a) 0 24 (fun k => r k)) (rb_ovF (fun i hi => rb_H0 H hi)) (fun j hj => rb_ovO (by omega))
  have w := xl_store_right ha g 24 0 (by omega)
  rw [rb_ovE] at w
  exact ⟨_, w⟩
theorem xl_store_quotient {post : SX → Prop} {F : Int32} {c l r q s p : Nat → Int32} {a : Nat} (ha : a < 4)
    (h : post (F, rb_ov c (24 * a) 0 24 (fun k => q k), l, r, q, s, p)) :
    ∀ d i, i + d = 24 → wX_store__quotient_2 post (nI a) F (d + 1) (nI i) (rb_ov c (24 * a) 0 i (fun k => q k)) l r q s p
  | 0, i, e => br_t (nI_le (a := 24) (by omega) (by omega)) (by
      have e2 : i = 24 := by omega
      subst e2
      exact h)
  | d + 1, i, e => br_f (nI_ge (b := 24) (by omega) (by decide))
      ⟨pk_in i 24 (by omega), pk_in (24 * a + i) 96 (by omega) (rb_x24 a i),
        nm_r (rb_wu (rb_x24 a i) (by omega) (by rw [rb_ci rfl (by omega)]) (Nat.zero_le i))
          (nm_r (nI_1 i) (xl_store_quotient ha h d (i + 1) (by omega)))⟩
theorem xx_store_quotient {post : SX → Prop} {F : Int32} {c l r q s p : Nat → Int32} {a R v : Nat} (ha : a < 4) (H : rb_H R q 0 24 v)
    (h : ∀ c', rb_H R c' (24 * a) 24 v → rb_KX a c c' → post (F, c', l, r, q, s, p)) : wpX_store__quotient post (F, c, l, r, q, s, p) (nI a) := by
  have g := h (rb_ov c (24 * a) 0 24 (fun k => q k)) (rb_ovF (fun i hi => rb_H0 H hi)) (fun j hj => rb_ovO (by omega))
  have w := xl_store_quotient ha g 24 0 (by omega)
  rw [rb_ovE] at w
  exact ⟨_, w⟩
theorem xl_store_rest {post : SX → Prop} {F : Int32} {c l r q s p : Nat → Int32} {a : Nat} (ha : a < 4)
    (h : post (F, rb_ov c (24 * a) 0 24 (fun k => s k), l, r, q, s, p)) :
    ∀ d i, i + d = 24 → wX_store__rest_2 post (nI a) F (d + 1) (nI i) (rb_ov c (24 * a) 0 i (fun k => s k)) l r q s p
  | 0, i, e => br_t (nI_le (a := 24) (by omega) (by omega)) (by
      have e2 : i = 24 := by omega
      subst e2
      exact h)
  | d + 1, i, e => br_f (nI_ge (b := 24) (by omega) (by decide))
      ⟨pk_in i 25 (by omega), pk_in (24 * a + i) 96 (by omega) (rb_x24 a i),
        nm_r (rb_wu (rb_x24 a i) (by omega) (by rw [rb_ci rfl (by omega)]) (Nat.zero_le i))
          (nm_r (nI_1 i) (xl_store_rest ha h d (i + 1) (by omega)))⟩
theorem xx_store_rest {post : SX → Prop} {F : Int32} {c l r q s p : Nat → Int32} {a R v : Nat} (ha : a < 4) (H : rb_H R s 0 24 v)
    (h : ∀ c', rb_H R c' (24 * a) 24 v → rb_KX a c c' → post (F, c', l, r, q, s, p)) : wpX_store__rest post (F, c, l, r, q, s, p) (nI a) := by
  have g := h (rb_ov c (24 * a) 0 24 (fun k => s k)) (rb_ovF (fun i hi => rb_H0 H hi)) (fun j hj => rb_ovO (by omega))
  have w := xl_store_rest ha g 24 0 (by omega)
  rw [rb_ovE] at w
  exact ⟨_, w⟩
theorem xl_store_product {post : SX → Prop} {F : Int32} {c l r q s p : Nat → Int32} {a : Nat} (ha : a < 4)
    (h : post (F, rb_ov c (24 * a) 0 24 (fun k => p k), l, r, q, s, p)) :
    ∀ d i, i + d = 24 → wX_store__product_2 post (nI a) F (d + 1) (nI i) (rb_ov c (24 * a) 0 i (fun k => p k)) l r q s p
  | 0, i, e => br_t (nI_le (a := 24) (by omega) (by omega)) (by
      have e2 : i = 24 := by omega
      subst e2
      exact h)
  | d + 1, i, e => br_f (nI_ge (b := 24) (by omega) (by decide))
      ⟨pk_in i 48 (by omega), pk_in (24 * a + i) 96 (by omega) (rb_x24 a i),
        nm_r (rb_wu (rb_x24 a i) (by omega) (by rw [rb_ci rfl (by omega)]) (Nat.zero_le i))
          (nm_r (nI_1 i) (xl_store_product ha h d (i + 1) (by omega)))⟩
theorem xx_store_product {post : SX → Prop} {F : Int32} {c l r q s p : Nat → Int32} {a R v : Nat} (ha : a < 4) (H : rb_H R p 0 24 v)
    (h : ∀ c', rb_H R c' (24 * a) 24 v → rb_KX a c c' → post (F, c', l, r, q, s, p)) : wpX_store__product post (F, c, l, r, q, s, p) (nI a) := by
  have g := h (rb_ov c (24 * a) 0 24 (fun k => p k)) (rb_ovF (fun i hi => rb_H0 H hi)) (fun j hj => rb_ovO (by omega))
  have w := xl_store_product ha g 24 0 (by omega)
  rw [rb_ovE] at w
  exact ⟨_, w⟩
theorem xl_clear_left {post : SX → Prop} {F : Int32} {c l r q s p : Nat → Int32}
    (h : post (F, c, rb_ov l 0 0 25 (fun _ => 0), r, q, s, p)) :
    ∀ d i, i + d = 25 → wX_clear__left_2 post F (d + 1) (nI i) c (rb_ov l 0 0 i (fun _ => 0)) r q s p
  | 0, i, e => br_t (nI_le (a := 25) (by omega) (by omega)) (by
      have e2 : i = 25 := by omega
      subst e2
      exact h)
  | d + 1, i, e => br_f (nI_ge (b := 25) (by omega) (by decide))
      ⟨pk_in i 25 (by omega), nm_r (rb_wu0 rfl (by omega) rfl (Nat.zero_le i))
          (nm_r (nI_1 i) (xl_clear_left h d (i + 1) (by omega)))⟩
theorem xx_clear_left {post : SX → Prop} {F : Int32} {c l r q s p : Nat → Int32} {R : Nat}
    (h : ∀ l', rb_H R l' 0 25 0 → post (F, c, l', r, q, s, p)) : wpX_clear__left post (F, c, l, r, q, s, p) := by
  have g := h (rb_ov l 0 0 25 (fun _ => 0)) (rb_ovF (fun i hi => by rw [rb_z]; rfl))
  have w := xl_clear_left g 25 0 (by omega)
  rw [rb_ovE] at w
  exact ⟨_, w⟩
theorem xl_clear_right {post : SX → Prop} {F : Int32} {c l r q s p : Nat → Int32}
    (h : post (F, c, l, rb_ov r 0 0 25 (fun _ => 0), q, s, p)) :
    ∀ d i, i + d = 25 → wX_clear__right_2 post F (d + 1) (nI i) c l (rb_ov r 0 0 i (fun _ => 0)) q s p
  | 0, i, e => br_t (nI_le (a := 25) (by omega) (by omega)) (by
      have e2 : i = 25 := by omega
      subst e2
      exact h)
  | d + 1, i, e => br_f (nI_ge (b := 25) (by omega) (by decide))
      ⟨pk_in i 25 (by omega), nm_r (rb_wu0 rfl (by omega) rfl (Nat.zero_le i))
          (nm_r (nI_1 i) (xl_clear_right h d (i + 1) (by omega)))⟩
theorem xx_clear_right {post : SX → Prop} {F : Int32} {c l r q s p : Nat → Int32} {R : Nat}
    (h : ∀ r', rb_H R r' 0 25 0 → post (F, c, l, r', q, s, p)) : wpX_clear__right post (F, c, l, r, q, s, p) := by
  have g := h (rb_ov r 0 0 25 (fun _ => 0)) (rb_ovF (fun i hi => by rw [rb_z]; rfl))
  have w := xl_clear_right g 25 0 (by omega)
  rw [rb_ovE] at w
  exact ⟨_, w⟩
theorem xl_clear_rest {post : SX → Prop} {F : Int32} {c l r q s p : Nat → Int32}
    (h : post (F, c, l, r, q, rb_ov s 0 0 25 (fun _ => 0), p)) :
    ∀ d i, i + d = 25 → wX_clear__rest_2 post F (d + 1) (nI i) c l r q (rb_ov s 0 0 i (fun _ => 0)) p
  | 0, i, e => br_t (nI_le (a := 25) (by omega) (by omega)) (by
      have e2 : i = 25 := by omega
      subst e2
      exact h)
  | d + 1, i, e => br_f (nI_ge (b := 25) (by omega) (by decide))
      ⟨pk_in i 25 (by omega), nm_r (rb_wu0 rfl (by omega) rfl (Nat.zero_le i))
          (nm_r (nI_1 i) (xl_clear_rest h d (i + 1) (by omega)))⟩
theorem xx_clear_rest {post : SX → Prop} {F : Int32} {c l r q s p : Nat → Int32} {R : Nat}
    (h : ∀ s', rb_H R s' 0 25 0 → post (F, c, l, r, q, s', p)) : wpX_clear__rest post (F, c, l, r, q, s, p) := by
  have g := h (rb_ov s 0 0 25 (fun _ => 0)) (rb_ovF (fun i hi => by rw [rb_z]; rfl))
  have w := xl_clear_rest g 25 0 (by omega)
  rw [rb_ovE] at w
  exact ⟨_, w⟩
theorem xl_copyPlaces_product_left {post : SX → Prop} {F : Int32} {c l r q s p : Nat → Int32}
    (h : post (F, c, upd (rb_ov l 0 0 24 (fun k => p k)) 24 0, r, q, s, p)) :
    ∀ d i, i + d = 24 → wX_copyPlaces__product_left_2 post F (d + 1) (nI i) c (rb_ov l 0 0 i (fun k => p k)) r q s p
  | 0, i, e => br_t (nI_le (a := 24) (by omega) (by omega)) (nm_e (by
      have e2 : i = 24 := by omega
      subst e2
      exact h))
  | d + 1, i, e => br_f (nI_ge (b := 24) (by omega) (by decide))
      ⟨pk_in i 48 (by omega), pk_in i 25 (by omega),
        nm_r (rb_wu0 rfl (by omega) (by rw [rb_ci rfl (by omega)]) (Nat.zero_le i))
          (nm_r (nI_1 i) (xl_copyPlaces_product_left h d (i + 1) (by omega)))⟩
theorem xx_copyPlaces_product_left {post : SX → Prop} {F : Int32} {c l r q s p : Nat → Int32} {R v : Nat} (hR : 2 ≤ R) (H : rb_H R p 0 24 v) (hv : v < R ^ 24)
    (h : ∀ l', rb_H R l' 0 25 v → post (F, c, l', r, q, s, p)) : wpX_copyPlaces__product_left post (F, c, l, r, q, s, p) := by
  have g := h (upd (rb_ov l 0 0 24 (fun k => p k)) 24 0) (rb_close hR (rb_ovF (fun i hi => rb_H0 H hi)) hv)
  have w := xl_copyPlaces_product_left g 24 0 (by omega)
  rw [rb_ovE] at w
  exact ⟨_, w⟩
theorem xl_copyPlaces_right_left {post : SX → Prop} {F : Int32} {c l r q s p : Nat → Int32}
    (h : post (F, c, upd (rb_ov l 0 0 24 (fun k => r k)) 24 0, r, q, s, p)) :
    ∀ d i, i + d = 24 → wX_copyPlaces__right_left_2 post F (d + 1) (nI i) c (rb_ov l 0 0 i (fun k => r k)) r q s p
  | 0, i, e => br_t (nI_le (a := 24) (by omega) (by omega)) (nm_e (by
      have e2 : i = 24 := by omega
      subst e2
      exact h))
  | d + 1, i, e => br_f (nI_ge (b := 24) (by omega) (by decide))
      ⟨pk_in i 25 (by omega), pk_in i 25 (by omega),
        nm_r (rb_wu0 rfl (by omega) (by rw [rb_ci rfl (by omega)]) (Nat.zero_le i))
          (nm_r (nI_1 i) (xl_copyPlaces_right_left h d (i + 1) (by omega)))⟩
theorem xx_copyPlaces_right_left {post : SX → Prop} {F : Int32} {c l r q s p : Nat → Int32} {R v : Nat} (hR : 2 ≤ R) (H : rb_H R r 0 24 v) (hv : v < R ^ 24)
    (h : ∀ l', rb_H R l' 0 25 v → post (F, c, l', r, q, s, p)) : wpX_copyPlaces__right_left post (F, c, l, r, q, s, p) := by
  have g := h (upd (rb_ov l 0 0 24 (fun k => r k)) 24 0) (rb_close hR (rb_ovF (fun i hi => rb_H0 H hi)) hv)
  have w := xl_copyPlaces_right_left g 24 0 (by omega)
  rw [rb_ovE] at w
  exact ⟨_, w⟩
theorem xl_copyPlaces_rest_right {post : SX → Prop} {F : Int32} {c l r q s p : Nat → Int32}
    (h : post (F, c, l, upd (rb_ov r 0 0 24 (fun k => s k)) 24 0, q, s, p)) :
    ∀ d i, i + d = 24 → wX_copyPlaces__rest_right_2 post F (d + 1) (nI i) c l (rb_ov r 0 0 i (fun k => s k)) q s p
  | 0, i, e => br_t (nI_le (a := 24) (by omega) (by omega)) (nm_e (by
      have e2 : i = 24 := by omega
      subst e2
      exact h))
  | d + 1, i, e => br_f (nI_ge (b := 24) (by omega) (by decide))
      ⟨pk_in i 25 (by omega), pk_in i 25 (by omega),
        nm_r (rb_wu0 rfl (by omega) (by rw [rb_ci rfl (by omega)]) (Nat.zero_le i))
          (nm_r (nI_1 i) (xl_copyPlaces_rest_right h d (i + 1) (by omega)))⟩
theorem xx_copyPlaces_rest_right {post : SX → Prop} {F : Int32} {c l r q s p : Nat → Int32} {R v : Nat} (hR : 2 ≤ R) (H : rb_H R s 0 24 v) (hv : v < R ^ 24)
    (h : ∀ r', rb_H R r' 0 25 v → post (F, c, l, r', q, s, p)) : wpX_copyPlaces__rest_right post (F, c, l, r, q, s, p) := by
  have g := h (upd (rb_ov r 0 0 24 (fun k => s k)) 24 0) (rb_close hR (rb_ovF (fun i hi => rb_H0 H hi)) hv)
  have w := xl_copyPlaces_rest_right g 24 0 (by omega)
  rw [rb_ovE] at w
  exact ⟨_, w⟩
theorem xl_isZero_left {post : Int32 → Prop} {F : Int32} {c l r q s p : Nat → Int32} {R v : Nat} (hR : 2 ≤ R) (hR2 : R ≤ 36) (H : rb_H R l 0 25 v) (hv : v < R ^ 25)
    (h0 : v ≠ 0 → post 0) (h1 : v = 0 → post 1) :
    ∀ d i, i + d = 25 → (∀ k, k < i → rb_dg R v k = 0) → wX_isZero__left_2 post F c l r q s p (d + 1) (nI i)
  | 0, i, e, z => br_t (nI_le (a := 25) (by omega) (by omega)) (h1 (rb_zero hR hv (fun k k1 => z k (by omega))))
  | d + 1, i, e, z => br_f (nI_ge (b := 25) (by omega) (by decide))
      ⟨pk_in i 25 (by omega), by
        have b1 := rb_dgb hR hR2 v i
        refine pk_eq (rb_dg R v i) 0 (fun c9 => nm_r (nI_1 i) (xl_isZero_left hR hR2 H hv h0 h1 d (i + 1) (by omega) ?_)) (fun c9 => h0 (rb_ne c9)) (rb_rH0 H (by omega) rfl (by omega))
        intro k k1
        by_cases e9 : k = i
        · rw [e9]
          exact c9
        · exact z k (by omega)⟩
theorem xx_isZero_left {post : Int32 → Prop} {F : Int32} {c l r q s p : Nat → Int32} {R v : Nat} (hR : 2 ≤ R) (hR2 : R ≤ 36) (H : rb_H R l 0 25 v) (hv : v < R ^ 25)
    (h0 : v ≠ 0 → post 0) (h1 : v = 0 → post 1) : wpX_isZero__left post (F, c, l, r, q, s, p) :=
  ⟨_, xl_isZero_left hR hR2 H hv h0 h1 25 0 (by omega) (fun k k1 => absurd k1 (by omega))⟩
theorem xl_isZero_right {post : Int32 → Prop} {F : Int32} {c l r q s p : Nat → Int32} {R v : Nat} (hR : 2 ≤ R) (hR2 : R ≤ 36) (H : rb_H R r 0 25 v) (hv : v < R ^ 25)
    (h0 : v ≠ 0 → post 0) (h1 : v = 0 → post 1) :
    ∀ d i, i + d = 25 → (∀ k, k < i → rb_dg R v k = 0) → wX_isZero__right_2 post F c l r q s p (d + 1) (nI i)
  | 0, i, e, z => br_t (nI_le (a := 25) (by omega) (by omega)) (h1 (rb_zero hR hv (fun k k1 => z k (by omega))))
  | d + 1, i, e, z => br_f (nI_ge (b := 25) (by omega) (by decide))
      ⟨pk_in i 25 (by omega), by
        have b1 := rb_dgb hR hR2 v i
        refine pk_eq (rb_dg R v i) 0 (fun c9 => nm_r (nI_1 i) (xl_isZero_right hR hR2 H hv h0 h1 d (i + 1) (by omega) ?_)) (fun c9 => h0 (rb_ne c9)) (rb_rH0 H (by omega) rfl (by omega))
        intro k k1
        by_cases e9 : k = i
        · rw [e9]
          exact c9
        · exact z k (by omega)⟩
theorem xx_isZero_right {post : Int32 → Prop} {F : Int32} {c l r q s p : Nat → Int32} {R v : Nat} (hR : 2 ≤ R) (hR2 : R ≤ 36) (H : rb_H R r 0 25 v) (hv : v < R ^ 25)
    (h0 : v ≠ 0 → post 0) (h1 : v = 0 → post 1) : wpX_isZero__right post (F, c, l, r, q, s, p) :=
  ⟨_, xl_isZero_right hR hR2 H hv h0 h1 25 0 (by omega) (fun k k1 => absurd k1 (by omega))⟩
theorem xl_order_left_right {post : Int32 → Prop} {F : Int32} {c l r q s p : Nat → Int32} {R v w : Nat} (hR : 2 ≤ R) (hR2 : R ≤ 36) (Hv : rb_H R l 0 25 v) (Hw : rb_H R r 0 25 w)
    (h0 : v = w → post 0) (h1 : w < v → post 1) (h2 : v < w → post 2) :
    ∀ e, e ≤ 25 → v / R ^ e = w / R ^ e → wX_order__left_right_3 post F c l r q s p (e + 1) (nI e + (-1))
  | 0, _, q9 => br_t (by rw [nI_0]; decide) (h0 (rb_o1 q9))
  | e + 1, l9, q9 => by
    rw [pk_m1]
    have b1 := rb_dgb hR hR2 v e
    have b2 := rb_dgb hR hR2 w e
    have r1 : l (nI e).toNatClampNeg = nI (rb_dg R v e) := rb_rH0 Hv (by omega) rfl (by omega)
    have r2 : r (nI e).toNatClampNeg = nI (rb_dg R w e) := rb_rH0 Hw (by omega) rfl (by omega)
    refine br_f (nI_pos (by omega)) ⟨pk_in e 25 (by omega), pk_in e 25 (by omega), ?_⟩
    refine pk_eq (rb_dg R v e) (rb_dg R w e) (fun c9 => nm_e (xl_order_left_right hR hR2 Hv Hw h0 h1 h2 e (by omega) (rb_oe q9 c9))) (fun c9 => ⟨pk_in e 25 (by omega), pk_in e 25 (by omega), ?_⟩) r1 r2
    exact pk_le (rb_dg R v e) (rb_dg R w e) (fun c8 => h2 (rb_og q9.symm (by omega))) (fun c8 => h1 (rb_og q9 (by omega))) r1 r2
theorem xx_order_left_right {post : Int32 → Prop} {F : Int32} {c l r q s p : Nat → Int32} {R v w : Nat} (hR : 2 ≤ R) (hR2 : R ≤ 36) (Hv : rb_H R l 0 25 v) (Hw : rb_H R r 0 25 w) (hv : v < R ^ 25) (hw : w < R ^ 25)
    (h0 : v = w → post 0) (h1 : w < v → post 1) (h2 : v < w → post 2) : wpX_order__left_right post (F, c, l, r, q, s, p) :=
  ⟨_, xl_order_left_right hR hR2 Hv Hw h0 h1 h2 25 (by omega) (rb_o0 hv hw)⟩
theorem xl_order_rest_right {post : Int32 → Prop} {F : Int32} {c l r q s p : Nat → Int32} {R v w : Nat} (hR : 2 ≤ R) (hR2 : R ≤ 36) (Hv : rb_H R s 0 25 v) (Hw : rb_H R r 0 25 w)
    (h0 : v = w → post 0) (h1 : w < v → post 1) (h2 : v < w → post 2) :
    ∀ e, e ≤ 25 → v / R ^ e = w / R ^ e → wX_order__rest_right_3 post F c l r q s p (e + 1) (nI e + (-1))
  | 0, _, q9 => br_t (by rw [nI_0]; decide) (h0 (rb_o1 q9))
  | e + 1, l9, q9 => by
    rw [pk_m1]
    have b1 := rb_dgb hR hR2 v e
    have b2 := rb_dgb hR hR2 w e
    have r1 : s (nI e).toNatClampNeg = nI (rb_dg R v e) := rb_rH0 Hv (by omega) rfl (by omega)
    have r2 : r (nI e).toNatClampNeg = nI (rb_dg R w e) := rb_rH0 Hw (by omega) rfl (by omega)
    refine br_f (nI_pos (by omega)) ⟨pk_in e 25 (by omega), pk_in e 25 (by omega), ?_⟩
    refine pk_eq (rb_dg R v e) (rb_dg R w e) (fun c9 => nm_e (xl_order_rest_right hR hR2 Hv Hw h0 h1 h2 e (by omega) (rb_oe q9 c9))) (fun c9 => ⟨pk_in e 25 (by omega), pk_in e 25 (by omega), ?_⟩) r1 r2
    exact pk_le (rb_dg R v e) (rb_dg R w e) (fun c8 => h2 (rb_og q9.symm (by omega))) (fun c8 => h1 (rb_og q9 (by omega))) r1 r2
theorem xx_order_rest_right {post : Int32 → Prop} {F : Int32} {c l r q s p : Nat → Int32} {R v w : Nat} (hR : 2 ≤ R) (hR2 : R ≤ 36) (Hv : rb_H R s 0 25 v) (Hw : rb_H R r 0 25 w) (hv : v < R ^ 25) (hw : w < R ^ 25)
    (h0 : v = w → post 0) (h1 : w < v → post 1) (h2 : v < w → post 2) : wpX_order__rest_right post (F, c, l, r, q, s, p) :=
  ⟨_, xl_order_rest_right hR hR2 Hv Hw h0 h1 h2 25 (by omega) (rb_o0 hv hw)⟩
theorem xl_order_product_left {post : Int32 → Prop} {F : Int32} {c l r q s p : Nat → Int32} {R v w : Nat} (hR : 2 ≤ R) (hR2 : R ≤ 36) (Hv : rb_H R p 0 25 v) (Hw : rb_H R l 0 25 w)
    (h0 : v = w → post 0) (h1 : w < v → post 1) (h2 : v < w → post 2) :
    ∀ e, e ≤ 25 → v / R ^ e = w / R ^ e → wX_order__product_left_3 post F c l r q s p (e + 1) (nI e + (-1))
  | 0, _, q9 => br_t (by rw [nI_0]; decide) (h0 (rb_o1 q9))
  | e + 1, l9, q9 => by
    rw [pk_m1]
    have b1 := rb_dgb hR hR2 v e
    have b2 := rb_dgb hR hR2 w e
    have r1 : p (nI e).toNatClampNeg = nI (rb_dg R v e) := rb_rH0 Hv (by omega) rfl (by omega)
    have r2 : l (nI e).toNatClampNeg = nI (rb_dg R w e) := rb_rH0 Hw (by omega) rfl (by omega)
    refine br_f (nI_pos (by omega)) ⟨pk_in e 48 (by omega), pk_in e 25 (by omega), ?_⟩
    refine pk_eq (rb_dg R v e) (rb_dg R w e) (fun c9 => nm_e (xl_order_product_left hR hR2 Hv Hw h0 h1 h2 e (by omega) (rb_oe q9 c9))) (fun c9 => ⟨pk_in e 48 (by omega), pk_in e 25 (by omega), ?_⟩) r1 r2
    exact pk_le (rb_dg R v e) (rb_dg R w e) (fun c8 => h2 (rb_og q9.symm (by omega))) (fun c8 => h1 (rb_og q9 (by omega))) r1 r2
theorem xx_order_product_left {post : Int32 → Prop} {F : Int32} {c l r q s p : Nat → Int32} {R v w : Nat} (hR : 2 ≤ R) (hR2 : R ≤ 36) (Hv : rb_H R p 0 25 v) (Hw : rb_H R l 0 25 w) (hv : v < R ^ 25) (hw : w < R ^ 25)
    (h0 : v = w → post 0) (h1 : w < v → post 1) (h2 : v < w → post 2) : wpX_order__product_left post (F, c, l, r, q, s, p) :=
  ⟨_, xl_order_product_left hR hR2 Hv Hw h0 h1 h2 25 (by omega) (rb_o0 hv hw)⟩
theorem xl_pushDigit_left {post : SX → Prop} {F : Int32} {c l r q s p : Nat → Int32} {x : Int32}
    (h : post (F, c, upd (rb_ov l 0 1 25 (fun k => l (k - 1))) 0 x, r, q, s, p)) :
    ∀ e, e < 25 → wX_pushDigit__left_3 post x F (e + 1) (nI e) c (rb_ov l 0 (e + 1) 25 (fun k => l (k - 1))) r q s p
  | 0, _ => br_t (by rw [nI_0]; decide) (nm_e h)
  | e + 1, l9 => by
    refine br_f (nI_nle (by omega) (by omega)) ⟨pk_in e 25 (by omega) (nI_pred e), pk_in (e + 1) 25 (by omega),
      nm_r (rb_wd0 rfl (by omega) ?_ l9) (nm_r (pk_m1 e) (xl_pushDigit_left h e (by omega)))⟩
    exact (rb_rd (nI_pred e) (by omega)).trans ((rb_ovO (by omega)).trans (congrArg l (by omega)))
theorem xx_pushDigit_left {post : SX → Prop} {F : Int32} {c l r q s p : Nat → Int32} {d R v : Nat} (hR : 2 ≤ R) (hd : d < R) (H : rb_H R l 0 25 v)
    (h : ∀ l', rb_H R l' 0 25 (v * R + d) → post (F, c, l', r, q, s, p)) : wpX_pushDigit__left post (F, c, l, r, q, s, p) (nI d) := by
  have g := h (upd (rb_ov l 0 1 25 (fun k => l (k - 1))) 0 (nI d)) (rb_H0i (fun i hi => by
    cases i with
    | zero => rw [pk_us, rb_pl v d hd]
    | succ i =>
      rw [pk_un (by omega), rb_ovI0 (by omega) hi, rb_ph hR v d i hd, Nat.add_sub_cancel]
      exact rb_H0 H (by omega)))
  have w := xl_pushDigit_left (x := nI d) g 24 (by omega)
  rw [rb_ovE] at w
  exact ⟨_, w⟩
theorem xl_pushDigit_rest {post : SX → Prop} {F : Int32} {c l r q s p : Nat → Int32} {x : Int32}
    (h : post (F, c, l, r, q, upd (rb_ov s 0 1 25 (fun k => s (k - 1))) 0 x, p)) :
    ∀ e, e < 25 → wX_pushDigit__rest_3 post x F (e + 1) (nI e) c l r q (rb_ov s 0 (e + 1) 25 (fun k => s (k - 1))) p
  | 0, _ => br_t (by rw [nI_0]; decide) (nm_e h)
  | e + 1, l9 => by
    refine br_f (nI_nle (by omega) (by omega)) ⟨pk_in e 25 (by omega) (nI_pred e), pk_in (e + 1) 25 (by omega),
      nm_r (rb_wd0 rfl (by omega) ?_ l9) (nm_r (pk_m1 e) (xl_pushDigit_rest h e (by omega)))⟩
    exact (rb_rd (nI_pred e) (by omega)).trans ((rb_ovO (by omega)).trans (congrArg s (by omega)))
theorem xx_pushDigit_rest {post : SX → Prop} {F : Int32} {c l r q s p : Nat → Int32} {d R v : Nat} (hR : 2 ≤ R) (hd : d < R) (H : rb_H R s 0 25 v)
    (h : ∀ s', rb_H R s' 0 25 (v * R + d) → post (F, c, l, r, q, s', p)) : wpX_pushDigit__rest post (F, c, l, r, q, s, p) (nI d) := by
  have g := h (upd (rb_ov s 0 1 25 (fun k => s (k - 1))) 0 (nI d)) (rb_H0i (fun i hi => by
    cases i with
    | zero => rw [pk_us, rb_pl v d hd]
    | succ i =>
      rw [pk_un (by omega), rb_ovI0 (by omega) hi, rb_ph hR v d i hd, Nat.add_sub_cancel]
      exact rb_H0 H (by omega)))
  have w := xl_pushDigit_rest (x := nI d) g 24 (by omega)
  rw [rb_ovE] at w
  exact ⟨_, w⟩
theorem xl_increase_left_right {post : SX → Prop} {c l r q s p : Nat → Int32} {R v w : Nat} (hR : 2 ≤ R) (hR2 : R ≤ 36) (Hv : rb_H R l 0 25 v) (Hw : rb_H R r 0 25 w)
    (h : post (nI R, c, rb_ov l 0 0 25 (fun k => nI (rb_dg R (v + w) k)), r, q, s, p)) :
    ∀ d i, i + d = 25 → wX_increase__left_right_5 post (nI R) (d + 1) (nI (rb_ca R v w i)) (nI i) c (rb_ov l 0 0 i (fun k => nI (rb_dg R (v + w) k))) r q s p
  | 0, i, e => br_t (nI_le (a := 25) (by omega) (by omega)) (by
      have e2 : i = 25 := by omega
      subst e2
      exact h)
  | d + 1, i, e => by
    have b1 := rb_lt hR v i
    have b2 := rb_lt hR w i
    have b3 := rb_ca1 hR v w i
    have hc := rb_cse (rb_cal hR v w i) (rb_lt hR (v + w) i) (rb_ca1 hR v w (i + 1))
    have r1 : rb_ov l 0 0 i (fun k => nI (rb_dg R (v + w) k)) (nI i).toNatClampNeg = nI (rb_dg R v i) := by
      rw [rb_ci rfl (by omega)]
      exact rb_ovH0 Hv (by omega) (by omega)
    have r2 : r (nI i).toNatClampNeg = nI (rb_dg R w i) := rb_rH0 Hw (by omega) rfl (by omega)
    refine br_f (nI_ge (b := 25) (by omega) (by decide)) ⟨pk_in i 25 (by omega), pk_in i 25 (by omega), nm_r (e' := nI (rb_dg R v i + rb_dg R w i + rb_ca R v w i)) (by rw [r1, r2, nI_add, nI_add]) ?_⟩
    have ih := xl_increase_left_right hR hR2 Hv Hw h d (i + 1) (by omega)
    refine pk_lt (rb_dg R v i + rb_dg R w i + rb_ca R v w i) R (fun k9 => ?_) (fun k9 => ?_)
    · obtain ⟨c1, c2⟩ := hc.1 k9
      rw [c1] at ih
      exact ⟨pk_in i 25 (by omega), nm_r (rb_wu0 rfl (by omega) (by rw [rb_a0, c2]) (Nat.zero_le i)) (nm_r (nI_1 i) ih)⟩
    · obtain ⟨c1, c2⟩ := hc.2 k9
      rw [c1] at ih
      exact ⟨pk_in i 25 (by omega), nm_r (rb_wu0 rfl (by omega) (by rw [rb_a1 k9, c2]) (Nat.zero_le i)) (nm_r (nI_1 i) ih)⟩
theorem xx_increase_left_right {post : SX → Prop} {c l r q s p : Nat → Int32} {R v w : Nat} (hR : 2 ≤ R) (hR2 : R ≤ 36) (Hv : rb_H R l 0 25 v) (Hw : rb_H R r 0 25 w)
    (h : ∀ l', rb_H R l' 0 25 (v + w) → post (nI R, c, l', r, q, s, p)) : wpX_increase__left_right post (nI R, c, l, r, q, s, p) := by
  have g := h (rb_ov l 0 0 25 (fun k => nI (rb_dg R (v + w) k))) (rb_ovF (fun i hi => rfl))
  have w := xl_increase_left_right hR hR2 Hv Hw g 25 0 (by omega)
  rw [rb_ovE, rb_ca0] at w
  exact ⟨_, w⟩
theorem xl_decrease_left_right {post : SX → Prop} {c l r q s p : Nat → Int32} {R u w : Nat} (hR : 2 ≤ R) (hR2 : R ≤ 36) (Hv : rb_H R l 0 25 (u + w)) (Hw : rb_H R r 0 25 w)
    (h : post (nI R, c, rb_ov l 0 0 25 (fun k => nI (rb_dg R u k)), r, q, s, p)) :
    ∀ d i, i + d = 25 → wX_decrease__left_right_5 post (nI R) (d + 1) (nI (rb_ca R u w i)) (nI i) c (rb_ov l 0 0 i (fun k => nI (rb_dg R u k))) r q s p
  | 0, i, e => br_t (nI_le (a := 25) (by omega) (by omega)) (by
      have e2 : i = 25 := by omega
      subst e2
      exact h)
  | d + 1, i, e => by
    have b1 := rb_lt hR (u + w) i
    have b2 := rb_lt hR w i
    have b3 := rb_ca1 hR u w i
    have hc := rb_tk (rb_cal hR u w i) (rb_lt hR u i) (rb_ca1 hR u w (i + 1)) (rb_lt hR (u + w) i)
    have r1 : rb_ov l 0 0 i (fun k => nI (rb_dg R u k)) (nI i).toNatClampNeg = nI (rb_dg R (u + w) i) := by
      rw [rb_ci rfl (by omega)]
      exact rb_ovH0 Hv (by omega) (by omega)
    have r2 : r (nI i).toNatClampNeg = nI (rb_dg R w i) := rb_rH0 Hw (by omega) rfl (by omega)
    refine br_f (nI_ge (b := 25) (by omega) (by decide)) ⟨pk_in i 25 (by omega), pk_in i 25 (by omega), nm_r (e' := nI (rb_dg R (u + w) i) - nI (rb_dg R w i) - nI (rb_ca R u w i)) (by rw [r1, r2]) ?_⟩
    have ih := xl_decrease_left_right hR hR2 Hv Hw h d (i + 1) (by omega)
    by_cases k9 : rb_dg R (u + w) i < rb_dg R w i + rb_ca R u w i
    · obtain ⟨c1, c2⟩ := hc.1 k9
      rw [c1] at ih
      refine br_f (Int32.not_le.mpr (rb_sn k9 (by omega))) (⟨pk_in i 25 (by omega), nm_r (rb_wu0 rfl (by omega) (by rw [rb_s1 (by omega), c2]) (Nat.zero_le i)) (nm_r (nI_1 i) ih)⟩)
    · obtain ⟨c1, c2⟩ := hc.2 (by omega)
      rw [c1] at ih
      refine br_t (by rw [rb_s0 (by omega)]; exact nI_pos' (by omega)) (⟨pk_in i 25 (by omega), nm_r (rb_wu0 rfl (by omega) (by rw [rb_s2 (by omega), c2]) (Nat.zero_le i)) (nm_r (nI_1 i) ih)⟩)
theorem xx_decrease_left_right {post : SX → Prop} {c l r q s p : Nat → Int32} {R v w : Nat} (hR : 2 ≤ R) (hR2 : R ≤ 36) (Hv : rb_H R l 0 25 v) (Hw : rb_H R r 0 25 w) (hl : w ≤ v)
    (h : ∀ l', rb_H R l' 0 25 (v - w) → post (nI R, c, l', r, q, s, p)) : wpX_decrease__left_right post (nI R, c, l, r, q, s, p) := by
  obtain ⟨u, rfl⟩ : ∃ u, v = u + w := ⟨v - w, by omega⟩
  rw [Nat.add_sub_cancel] at h
  have g := h (rb_ov l 0 0 25 (fun k => nI (rb_dg R u k))) (rb_ovF (fun i hi => rfl))
  have w := xl_decrease_left_right hR hR2 Hv Hw g 25 0 (by omega)
  rw [rb_ovE, rb_ca0] at w
  exact ⟨_, w⟩
theorem xl_decrease_rest_right {post : SX → Prop} {c l r q s p : Nat → Int32} {R u w : Nat} (hR : 2 ≤ R) (hR2 : R ≤ 36) (Hv : rb_H R s 0 25 (u + w)) (Hw : rb_H R r 0 25 w)
    (h : post (nI R, c, l, r, q, rb_ov s 0 0 25 (fun k => nI (rb_dg R u k)), p)) :
    ∀ d i, i + d = 25 → wX_decrease__rest_right_5 post (nI R) (d + 1) (nI (rb_ca R u w i)) (nI i) c l r q (rb_ov s 0 0 i (fun k => nI (rb_dg R u k))) p
  | 0, i, e => br_t (nI_le (a := 25) (by omega) (by omega)) (by
      have e2 : i = 25 := by omega
      subst e2
      exact h)
  | d + 1, i, e => by
    have b1 := rb_lt hR (u + w) i
    have b2 := rb_lt hR w i
    have b3 := rb_ca1 hR u w i
    have hc := rb_tk (rb_cal hR u w i) (rb_lt hR u i) (rb_ca1 hR u w (i + 1)) (rb_lt hR (u + w) i)
    have r1 : rb_ov s 0 0 i (fun k => nI (rb_dg R u k)) (nI i).toNatClampNeg = nI (rb_dg R (u + w) i) := by
      rw [rb_ci rfl (by omega)]
      exact rb_ovH0 Hv (by omega) (by omega)
    have r2 : r (nI i).toNatClampNeg = nI (rb_dg R w i) := rb_rH0 Hw (by omega) rfl (by omega)
    refine br_f (nI_ge (b := 25) (by omega) (by decide)) ⟨pk_in i 25 (by omega), pk_in i 25 (by omega), nm_r (e' := nI (rb_dg R (u + w) i) - nI (rb_dg R w i) - nI (rb_ca R u w i)) (by rw [r1, r2]) ?_⟩
    have ih := xl_decrease_rest_right hR hR2 Hv Hw h d (i + 1) (by omega)
    by_cases k9 : rb_dg R (u + w) i < rb_dg R w i + rb_ca R u w i
    · obtain ⟨c1, c2⟩ := hc.1 k9
      rw [c1] at ih
      refine br_f (Int32.not_le.mpr (rb_sn k9 (by omega))) (⟨pk_in i 25 (by omega), nm_r (rb_wu0 rfl (by omega) (by rw [rb_s1 (by omega), c2]) (Nat.zero_le i)) (nm_r (nI_1 i) ih)⟩)
    · obtain ⟨c1, c2⟩ := hc.2 (by omega)
      rw [c1] at ih
      refine br_t (by rw [rb_s0 (by omega)]; exact nI_pos' (by omega)) (⟨pk_in i 25 (by omega), nm_r (rb_wu0 rfl (by omega) (by rw [rb_s2 (by omega), c2]) (Nat.zero_le i)) (nm_r (nI_1 i) ih)⟩)
theorem xx_decrease_rest_right {post : SX → Prop} {c l r q s p : Nat → Int32} {R v w : Nat} (hR : 2 ≤ R) (hR2 : R ≤ 36) (Hv : rb_H R s 0 25 v) (Hw : rb_H R r 0 25 w) (hl : w ≤ v)
    (h : ∀ s', rb_H R s' 0 25 (v - w) → post (nI R, c, l, r, q, s', p)) : wpX_decrease__rest_right post (nI R, c, l, r, q, s, p) := by
  obtain ⟨u, rfl⟩ : ∃ u, v = u + w := ⟨v - w, by omega⟩
  rw [Nat.add_sub_cancel] at h
  have g := h (rb_ov s 0 0 25 (fun k => nI (rb_dg R u k))) (rb_ovF (fun i hi => rfl))
  have w := xl_decrease_rest_right hR hR2 Hv Hw g 25 0 (by omega)
  rw [rb_ovE, rb_ca0] at w
  exact ⟨_, w⟩
theorem xl_takeLastDigit_left {post : Int32 → SX → Prop} {c l r q s p : Nat → Int32} {R v m : Nat} (hR : 2 ≤ R) (hR2 : R ≤ 36) (hm : 0 < m) (hm2 : m ≤ 36) (H : rb_H R l 0 25 v)
    (h : post (nI (v % m)) (nI R, c, rb_ov l 0 0 24 (fun k => nI (rb_dg R (v / m) k)), r, q, s, p)) :
    ∀ e, e ≤ 24 → wX_takeLastDigit__left_6 post (nI m) (nI R) (e + 1) (nI (v / R ^ e % m)) (nI e + (-1)) c (rb_ov l 0 e 24 (fun k => nI (rb_dg R (v / m) k))) r q s p
  | 0, _ => br_t (by rw [nI_0]; decide) (by rw [Nat.pow_zero, Nat.div_one]; exact h)
  | e + 1, l9 => by
    rw [pk_m1]
    have b1 := rb_lt hR v e
    have b2 := Nat.mod_lt (v / R ^ (e + 1)) hm
    have b3 := rb_ldb hR hm v e
    have b4 : m * R ≤ 36 * 36 := Nat.mul_le_mul hm2 hR2
    have ih := xl_takeLastDigit_left hR hR2 hm hm2 H h e (by omega)
    rw [← rb_ldr hm] at ih
    have k9 := rb_ldq hR hm v e
    have r1 : rb_ov l 0 (e + 1) 24 (fun k => nI (rb_dg R (v / m) k)) (nI e).toNatClampNeg = nI (rb_dg R v e) := by
      rw [rb_ci rfl (by omega)]
      exact rb_ovH0 H (by omega) (by omega)
    exact br_f (nI_pos (by omega)) ⟨pk_in e 25 (by omega), nm_r (e' := nI (v / R ^ (e + 1) % m * R + rb_dg R v e)) (by rw [r1, pk_mul, nI_add])
      ⟨nI_ne0 hm (by omega), pk_in e 25 (by omega), nm_r (rb_wd0 rfl (by omega) (by rw [pk_div (by omega) hm (by omega), k9]) (by omega)) ⟨nI_ne0 hm (by omega), nm_r (pk_rem (by omega) hm (by omega)) (nm_e ih)⟩⟩⟩
theorem xx_takeLastDigit_left {post : Int32 → SX → Prop} {c l r q s p : Nat → Int32} {R v m : Nat} (hR : 2 ≤ R) (hR2 : R ≤ 36) (hm : 0 < m) (hm2 : m ≤ 36) (H : rb_H R l 0 25 v) (hv : v < R ^ 24)
    (h : ∀ l', rb_H R l' 0 25 (v / m) → post (nI (v % m)) (nI R, c, l', r, q, s, p)) : wpX_takeLastDigit__left post (nI R, c, l, r, q, s, p) (nI m) := by
  have hq : v / m < R ^ 24 := Nat.lt_of_le_of_lt (Nat.div_le_self v m) hv
  have g := h (rb_ov l 0 0 24 (fun k => nI (rb_dg R (v / m) k))) (rb_HX hR (rb_ovF (fun i hi => rfl)) hq (fun i i1 i2 => by
    rw [rb_ovO (by omega), H i i2, rb_hi hR hv i1]
    rfl))
  have w := xl_takeLastDigit_left hR hR2 hm hm2 H g 24 (by omega)
  rw [rb_ovE, Nat.div_eq_of_lt hv, Nat.zero_mod] at w
  exact ⟨_, w⟩
