theorem xx_divide {post : Int32 → SX → Prop} {c l r q s p : Nat → Int32} {R d a b : Nat} {V : Nat → Nat} (hR : 2 ≤ R) (hR2 : R ≤ 36) (hB : rb_B R V) (hX : rb_X R V c) (hd : d < 4) (ha : a < 4) (hb : b < 4) (n1 : d ≠ a) (n2 : d ≠ b) (n3 : a ≠ b)
    (h0 : V b ≠ 0 → rb_PX R (rb_up (rb_up V d (V a / V b)) a (V a % V b)) (post 0)) (h1 : V b = 0 → rb_PX R V (post (-3))) : wpX_divide post (nI R, c, l, r, q, s, p) (nI d) (nI a) (nI b) := by
  unfold wpX_divide
  dsimp only
  refine xx_reg hd (br_f (by decide) (xx_reg ha (br_f (by decide) (xx_reg hb (br_f (by decide) ?_)))))
  refine br_f (fun z => n1 ((nI_eq (by omega) (by omega)).mp z)) (br_f (fun z => n2 ((nI_eq (by omega) (by omega)).mp z)) (br_f (fun z => n3 ((nI_eq (by omega) (by omega)).mp z)) ?_))
  refine xx_load_left ha hR (hX a ha) (hB a ha) (fun l1 Hl => ?_)
  refine xx_load_right hb hR (hX b hb) (hB b hb) (fun r1 Hr => ?_)
  refine xx_isZero_right hR hR2 Hr (rb_w25 hR (hB b hb)) (fun z => br_t rfl ?_) (fun z => br_f (by decide) (h1 z _ _ _ _ _ _ hX))
  refine xx_quot hR hR2 Hl (hB a ha) Hr (Nat.pos_of_ne_zero z) (hB b hb) (fun q1 s1 Hq Hs => ?_)
  refine xx_store_quotient hd Hq (fun c1 H1 K1 => ?_)
  exact xx_store_rest ha (rb_Hm Hs (by omega)) (fun c2 H2 K2 => h0 z _ _ _ _ _ _ (rb_Xs (rb_Xs hX H1 K1) H2 K2))
/-! divisor -/
theorem xl_divisor0 {post : Int32 → SX → Prop} {c l r q s p : Nat → Int32} {R a k u n : Nat} {V : Nat → Nat} (hR : 2 ≤ R) (hR2 : R ≤ 36) (hX : rb_X R V c) (ha : a < 4) (hk : k < 10000)
    (h : rb_PX R (rb_up V a u) (post 0)) (Hl : rb_H R l 0 25 u) (Hr : rb_H R r 0 25 0) : wX_divisor_36 post (nI a) (n + 1) (nI k) (nI R) c l r q s p :=
  br_f (nI_ge (b := 10000) hk (by decide)) (xx_isZero_right hR hR2 Hr (rb_pp hR 25) (fun y => absurd rfl y) (fun _ => br_f (by decide)
    (xx_store_left ha (rb_Hm Hl (by omega)) (fun c1 H1 K => h _ _ _ _ _ _ (rb_Xs hX H1 K)))))
theorem xl_divisor {post : Int32 → SX → Prop} {c p : Nat → Int32} {R a G : Nat} {V : Nat → Nat} (hR : 2 ≤ R) (hR2 : R ≤ 36) (hX : rb_X R V c) (ha : a < 4)
    (h : rb_PX R (rb_up V a G) (post 0)) :
    ∀ d k u w l r q s, k + d = 251 → u < R ^ 24 → w < R ^ 24 → Nat.gcd u w = G → (w = 0 ∨ rb_E k u w) → rb_H R l 0 25 u → rb_H R r 0 25 w → wX_divisor_36 post (nI a) (d + 1) (nI k) (nI R) c l r q s p
  | 0, k, u, w, l, r, q, s, e, hu, hw, hg, hE, Hl, Hr => by
    have z : w = 0 := hE.elim id (fun z => rb_Ee z (by omega))
    rw [z, Nat.gcd_zero_right] at hg
    rw [hg] at Hl
    rw [z] at Hr
    exact xl_divisor0 hR hR2 hX ha (by omega) h Hl Hr
  | d + 1, k, u, w, l, r, q, s, e, hu, hw, hg, hE, Hl, Hr => by
    by_cases z : w = 0
    · rw [z, Nat.gcd_zero_right] at hg
      rw [hg] at Hl
      rw [z] at Hr
      exact xl_divisor0 hR hR2 hX ha (by omega) h Hl Hr
    · have hE' := hE.resolve_left z
      have w0 := Nat.pos_of_ne_zero z
      refine br_f (nI_ge (b := 10000) (by omega) (by decide)) (xx_isZero_right hR hR2 Hr (rb_w25 hR hw) (fun _ => br_t rfl ?_) (fun y => absurd y z))
      refine xx_quot hR hR2 Hl hu Hr w0 hw (fun q1 s1 Hq Hs => ?_)
      refine xx_copyPlaces_right_left hR (rb_Hm Hr (by omega)) hw (fun l1 Hl1 => ?_)
      have m := Nat.mod_lt u w0
      refine xx_copyPlaces_rest_right hR (rb_Hm Hs (by omega)) (Nat.lt_trans m hw) (fun r1 Hr1 => nm_r (nI_1 k) ?_)
      exact xl_divisor hR hR2 hX ha h d (k + 1) w (u % w) l1 r1 q1 s1 (by omega) hw (Nat.lt_trans m hw) (by rw [rb_gc]; exact hg) (Or.inr (rb_Es w0 hE')) Hl1 Hr1
theorem xx_divisor {post : Int32 → SX → Prop} {c l r q s p : Nat → Int32} {R a b : Nat} {V : Nat → Nat} (hR : 2 ≤ R) (hR2 : R ≤ 36) (hB : rb_B R V) (hX : rb_X R V c) (ha : a < 4) (hb : b < 4)
    (h : rb_PX R (rb_up V a (Nat.gcd (V a) (V b))) (post 0)) : wpX_divisor post (nI R, c, l, r, q, s, p) (nI a) (nI b) := by
  unfold wpX_divisor
  dsimp only
  refine xx_reg ha (br_f (by decide) (xx_reg hb (br_f (by decide) ?_)))
  refine xx_load_left ha hR (hX a ha) (hB a ha) (fun l1 Hl => ?_)
  refine xx_load_right hb hR (hX b hb) (hB b hb) (fun r1 Hr => ?_)
  exact ⟨252, xl_divisor hR hR2 hX ha h 251 0 (V a) (V b) l1 r1 q s (by omega) (hB a ha) (hB b hb) rfl (Or.inr (rb_E0 hR2 (hB a ha) (hB b hb))) Hl Hr⟩
/-! root -/
theorem rb_rcw {R s i d n o : Nat} {r : Nat → Int32} (hR : 2 ≤ R) (hd : d < R) (h : ∀ k, k < n → k ≠ i → r (o + k) = nI (if k < i then 0 else rb_dg R s k)) : rb_H R (upd r (o + i) (nI d)) o n (rb_rc R s i d) := by
  intro k hk
  rw [rb_rcd hR s k hd]
  by_cases e : k = i
  · rw [e, pk_us, if_neg (Nat.lt_irrefl i), if_pos rfl]
  · rw [pk_un (by omega), h k hk e]
    by_cases c : k < i
    · rw [if_pos c, if_pos c]
    · rw [if_neg c, if_neg c, if_neg e]
theorem rb_rch {R s i n o : Nat} {r : Nat → Int32} (hR : 2 ≤ R) (H : rb_H R r o n (s / R ^ (i + 1) * R ^ (i + 1))) : ∀ k, k < n → k ≠ i → r (o + k) = nI (if k < i then 0 else rb_dg R s k) := by
  intro k hk hi
  rw [H k hk, rb_rtd hR]
  by_cases c : k < i
  · rw [if_pos c, if_pos (by omega)]
  · rw [if_neg c, if_neg (by omega)]
theorem rb_rcU {R s i n o : Nat} {r : Nat → Int32} {x : Int32} (h : ∀ k, k < n → k ≠ i → r (o + k) = nI (if k < i then 0 else rb_dg R s k)) : ∀ k, k < n → k ≠ i → upd r (o + i) x (o + k) = nI (if k < i then 0 else rb_dg R s k) := by
  intro k hk hi
  rw [pk_un (by omega)]
  exact h k hk hi
theorem xl_settle {post : SX → Prop} {c l q s : Nat → Int32} {R A t i : Nat} (hR : 2 ≤ R) (hR2 : R ≤ 36) (hA : A < R ^ 24) (h1 : t * t ≤ A) (h2 : A < (t + 1) * (t + 1)) (hi : i < 12) (Hl : rb_H R l 0 25 A)
    (h : ∀ r' p', rb_H R r' 0 25 (t / R ^ i * R ^ i) → post (nI R, c, l, r', q, s, p')) :
    ∀ e r p, rb_dg R t i < e → e ≤ R → (∀ k, k < 25 → k ≠ i → r (0 + k) = nI (if k < i then 0 else rb_dg R t k)) → wX_settleRootDigit_7 post (nI i) e (nI e + (-1)) (nI R) c l r q s p
  | 0, _, _, y, _, _ => absurd y (Nat.not_lt_zero _)
  | e + 1, r, p, y1, y2, hr => by
    rw [pk_m1]
    have tb := rb_sqb hA h1
    have H := rb_rcw (d := e) hR (by omega) hr
    rw [Nat.zero_add] at H
    have cb : rb_rc R t i e < R ^ 12 := rb_rcb hR tb hi (by omega)
    have cb24 : rb_rc R t i e < R ^ 24 := Nat.lt_of_lt_of_le cb (rb_pm hR (by omega))
    have sb : rb_rc R t i e * rb_rc R t i e < R ^ 24 := rb_mlt cb cb
    refine br_f (nI_pos (by omega)) ⟨pk_in i 25 (by omega), nm_r (e' := upd r i (nI e)) (by rw [nI_clamp (by omega)]) ?_⟩
    refine xx_formProduct_right_right hR hR2 H H cb24 cb24 (fun p1 Hp => ?_)
    have cc := rb_sqc (rb_rc R t i e) h1 h2
    have cl := rb_rcl hR t i e
    have go : e ≤ rb_dg R t i → post (nI R, c, l, upd r i (nI e), q, s, p1) := by
      intro z
      have e2 : e = rb_dg R t i := by omega
      rw [e2, rb_rcs] at H
      rw [e2]
      exact h _ _ H
    refine xx_order_product_left hR hR2 (rb_Hm Hp (by omega)) Hl (rb_w25 hR sb) (rb_w25 hR hA) (fun z => br_f (by decide) (go (cl.mp (cc.mp (by omega))))) (fun z => br_t rfl (nm_e ?_)) (fun z => br_f (by decide) (go (cl.mp (cc.mp (by omega)))))
    have y3 : ¬ e ≤ rb_dg R t i := fun y => absurd (cc.mpr (cl.mpr y)) (by omega)
    have hr2 := rb_rcU (x := nI e) hr
    rw [Nat.zero_add] at hr2
    exact xl_settle hR hR2 hA h1 h2 hi Hl h e _ p1 (by omega) (by omega) hr2
theorem xx_settle {post : SX → Prop} {c l r q s p : Nat → Int32} {R A t i : Nat} (hR : 2 ≤ R) (hR2 : R ≤ 36) (hA : A < R ^ 24) (h1 : t * t ≤ A) (h2 : A < (t + 1) * (t + 1)) (hi : i < 12) (Hl : rb_H R l 0 25 A) (Hr : rb_H R r 0 25 (t / R ^ (i + 1) * R ^ (i + 1)))
    (h : ∀ r' p', rb_H R r' 0 25 (t / R ^ i * R ^ i) → post (nI R, c, l, r', q, s, p')) : wpX_settleRootDigit post (nI R, c, l, r, q, s, p) (nI i) := by
  refine nm_r (e' := nI R + (-1)) ?_ ⟨_, xl_settle hR hR2 hA h1 h2 hi Hl h R r p (rb_lt hR t i) (Nat.le_refl R) (rb_rch hR Hr)⟩
  exact (Int32.sub_eq_add_neg (nI R) 1)
theorem xl_root {post : Int32 → SX → Prop} {c l q s : Nat → Int32} {R A t a : Nat} {V : Nat → Nat} (hR : 2 ≤ R) (hR2 : R ≤ 36) (hX : rb_X R V c) (ha : a < 4) (hA : A < R ^ 24) (h1 : t * t ≤ A) (h2 : A < (t + 1) * (t + 1)) (Hl : rb_H R l 0 25 A)
    (h : rb_PX R (rb_up V a t) (post 0)) :
    ∀ e r p, e ≤ 12 → rb_H R r 0 25 (t / R ^ e * R ^ e) → wX_root_28 post (nI a) (e + 1) (nI e + (-1)) (nI R) c l r q s p
  | 0, r, p, _, Hr => br_t (by rw [nI_0]; decide) (by
      rw [Nat.pow_zero, Nat.div_one, Nat.mul_one] at Hr
      exact xx_store_right ha (rb_Hm Hr (by omega)) (fun c1 H1 K => h _ _ _ _ _ _ (rb_Xs hX H1 K)))
  | e + 1, r, p, l9, Hr => by
    rw [pk_m1]
    exact br_f (nI_pos (by omega)) (xx_settle hR hR2 hA h1 h2 (by omega) Hl Hr (fun r1 p1 H1 => nm_e (xl_root hR hR2 hX ha hA h1 h2 Hl h e r1 p1 (by omega) H1)))
theorem xx_root {post : Int32 → SX → Prop} {c l r q s p : Nat → Int32} {R t a : Nat} {V : Nat → Nat} (hR : 2 ≤ R) (hR2 : R ≤ 36) (hB : rb_B R V) (hX : rb_X R V c) (ha : a < 4) (h1 : t * t ≤ V a) (h2 : V a < (t + 1) * (t + 1))
    (h : rb_PX R (rb_up V a t) (post 0)) : wpX_root post (nI R, c, l, r, q, s, p) (nI a) := by
  unfold wpX_root
  dsimp only
  refine xx_reg ha (br_f (by decide) ?_)
  refine xx_load_left ha hR (hX a ha) (hB a ha) (fun l1 Hl => ?_)
  refine xx_clear_right (R := R) (fun r1 H1 => ⟨13, xl_root hR hR2 hX ha (hB a ha) h1 h2 Hl h 12 r1 p (by omega) ?_⟩)
  rw [Nat.div_eq_of_lt (rb_sqb (hB a ha) h1), Nat.zero_mul]
  exact H1
/-! power -/
theorem xl_power {post : Int32 → SX → Prop} {c r q s : Nat → Int32} {R A a n : Nat} {V : Nat → Nat} (hR : 2 ≤ R) (hR2 : R ≤ 36) (hX : rb_X R V c) (ha : a < 4) (hA : A < R ^ 24) (hn : n ≤ 100) (Hr : rb_H R r 0 25 A)
    (h0 : (∀ j, j ≤ n → A ^ j < R ^ 24) → rb_PX R (rb_up V a (A ^ n)) (post 0)) (h1 : (∃ j, j ≤ n ∧ R ^ 24 ≤ A ^ j) → rb_PX R V (post (-3))) :
    ∀ d k l p, k + d = n → (∀ j, j ≤ k → A ^ j < R ^ 24) → rb_H R l 0 25 (A ^ k) → wX_power_47 post (nI a) (nI n) (d + 1) (nI k) (nI R) c l r q s p
  | 0, k, l, p, e, z, Hl => br_t (nI_le (by omega) (by omega)) (by
      have e2 : k = n := by omega
      subst e2
      exact xx_store_left ha (rb_Hm Hl (by omega)) (fun c1 H1 K => h0 z _ _ _ _ _ _ (rb_Xs hX H1 K)))
  | d + 1, k, l, p, e, z, Hl => by
    refine br_f (nI_ge (by omega) (by omega)) (xx_formProduct_left_right hR hR2 Hl Hr (z k (Nat.le_refl k)) hA (fun p1 Hp => ?_))
    rw [← Nat.pow_succ] at Hp
    refine xx_tooLong hR hR2 Hp (by rw [Nat.pow_succ]; exact rb_mlt (z k (Nat.le_refl k)) hA) (fun y => br_t rfl ?_) (fun y => br_f (by decide) (h1 ⟨k + 1, by omega, y⟩ _ _ _ _ _ _ hX))
    refine xx_copyPlaces_product_left hR (rb_Hm Hp (by omega)) y (fun l1 Hl1 => nm_r (nI_1 k) ?_)
    refine xl_power hR hR2 hX ha hA hn Hr h0 h1 d (k + 1) l1 p1 (by omega) (fun j hj => ?_) Hl1
    by_cases e9 : j = k + 1
    · rw [e9]
      exact y
    · exact z j (by omega)
theorem xx_power {post : Int32 → SX → Prop} {c l r q s p : Nat → Int32} {R a n : Nat} {V : Nat → Nat} (hR : 2 ≤ R) (hR2 : R ≤ 36) (hB : rb_B R V) (hX : rb_X R V c) (ha : a < 4) (hn : n ≤ 100)
    (h0 : (∀ j, j ≤ n → V a ^ j < R ^ 24) → rb_PX R (rb_up V a (V a ^ n)) (post 0)) (h1 : (∃ j, j ≤ n ∧ R ^ 24 ≤ V a ^ j) → rb_PX R V (post (-3))) : wpX_power post (nI R, c, l, r, q, s, p) (nI a) (nI n) := by
  unfold wpX_power
  dsimp only
  refine xx_reg ha (br_f (by decide) (br_f (nI_pos (by omega)) (br_t (nI_le (b := 100) hn (by decide)) ?_)))
  refine xx_load_right ha hR (hX a ha) (hB a ha) (fun r1 Hr => ?_)
  refine xx_clear_left (R := R) (fun l1 H1 => nm_e ⟨n + 1, ?_⟩)
  have HL : rb_H R (upd l1 0 1) 0 25 (V a ^ 0) := by
    rw [Nat.pow_zero]
    refine rb_H0i (fun k hk => ?_)
    by_cases e : k = 0
    · rw [e, pk_us, rb_d0, Nat.mod_eq_of_lt (by omega : 1 < R)]
      rfl
    · rw [pk_un e, rb_H0 H1 hk, rb_z, rb_hi (n := 1) hR (by rw [Nat.pow_one]; omega) (by omega)]
  refine xl_power hR hR2 hX ha (hB a ha) hn Hr h0 h1 n 0 (upd l1 0 1) p (by omega) (fun j hj => ?_) HL
  have e : j = 0 := by omega
  rw [e, Nat.pow_zero]
  exact Nat.one_lt_pow (by decide) (by omega)
