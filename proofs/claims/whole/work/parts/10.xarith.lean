theorem xx_add {post : Int32 → SX → Prop} {c l r q s p : Nat → Int32} {R a b : Nat} {V : Nat → Nat} (hR : 2 ≤ R) (hR2 : R ≤ 36) (hB : rb_B R V) (hX : rb_X R V c) (ha : a < 4) (hb : b < 4)
    (h0 : V a + V b < R ^ 24 → rb_PX R (rb_up V a (V a + V b)) (post 0)) (h1 : R ^ 24 ≤ V a + V b → rb_PX R V (post (-2))) : wpX_add post (nI R, c, l, r, q, s, p) (nI a) (nI b) := by
  unfold wpX_add
  dsimp only
  refine xx_reg ha (br_f (by decide) (xx_reg hb (br_f (by decide) ?_)))
  refine xx_load_left ha hR (hX a ha) (hB a ha) (fun l1 Hl => ?_)
  refine xx_load_right hb hR (hX b hb) (hB b hb) (fun r1 Hr => ?_)
  refine xx_increase_left_right hR hR2 Hl Hr (fun l2 H2 => ?_)
  have e : l2 24 = nI (rb_dg R (V a + V b) 24) := rb_H0 H2 (by omega)
  have b1 := rb_sum25 hR (hB a ha) (hB b hb)
  by_cases k : V a + V b < R ^ 24
  · have e0 : l2 24 = 0 := by
      rw [e, (rb_d24 hR b1).mpr k]
      rfl
    exact br_t e0 (xx_store_left ha (rb_Hm H2 (by omega)) (fun c1 H1 K => h0 k _ _ _ _ _ _ (rb_Xs hX H1 K)))
  · have e0 : ¬ l2 24 = 0 := by
      intro z
      have b2 := rb_dgb hR hR2 (V a + V b) 24
      rw [e] at z
      exact k ((rb_d24 hR b1).mp ((rb_n0 (by omega)).mp z))
    exact br_f e0 (h1 (by omega) _ _ _ _ _ _ hX)
theorem xx_subtract {post : Int32 → SX → Prop} {c l r q s p : Nat → Int32} {R a b : Nat} {V : Nat → Nat} (hR : 2 ≤ R) (hR2 : R ≤ 36) (hB : rb_B R V) (hX : rb_X R V c) (ha : a < 4) (hb : b < 4)
    (h0 : V b ≤ V a → rb_PX R (rb_up V a (V a - V b)) (post 0)) (h1 : V a < V b → rb_PX R V (post (-2))) : wpX_subtract post (nI R, c, l, r, q, s, p) (nI a) (nI b) := by
  unfold wpX_subtract
  dsimp only
  refine xx_reg ha (br_f (by decide) (xx_reg hb (br_f (by decide) ?_)))
  refine xx_load_left ha hR (hX a ha) (hB a ha) (fun l1 Hl => ?_)
  refine xx_load_right hb hR (hX b hb) (hB b hb) (fun r1 Hr => ?_)
  refine xx_order_left_right hR hR2 Hl Hr (rb_w25 hR (hB a ha)) (rb_w25 hR (hB b hb)) (fun z => br_f (by decide) ?_) (fun z => br_f (by decide) ?_) (fun z => br_t rfl (h1 z _ _ _ _ _ _ hX))
  all_goals
    have z2 : V b ≤ V a := by omega
    exact xx_decrease_left_right hR hR2 Hl Hr z2 (fun l2 H2 => xx_store_left ha (rb_Hm H2 (by omega)) (fun c1 H1 K => h0 z2 _ _ _ _ _ _ (rb_Xs hX H1 K)))
theorem xx_multiply {post : Int32 → SX → Prop} {c l r q s p : Nat → Int32} {R a b : Nat} {V : Nat → Nat} (hR : 2 ≤ R) (hR2 : R ≤ 36) (hB : rb_B R V) (hX : rb_X R V c) (ha : a < 4) (hb : b < 4)
    (h0 : V a * V b < R ^ 24 → rb_PX R (rb_up V a (V a * V b)) (post 0)) (h1 : R ^ 24 ≤ V a * V b → rb_PX R V (post (-2))) : wpX_multiply post (nI R, c, l, r, q, s, p) (nI a) (nI b) := by
  unfold wpX_multiply
  dsimp only
  refine xx_reg ha (br_f (by decide) (xx_reg hb (br_f (by decide) ?_)))
  refine xx_load_left ha hR (hX a ha) (hB a ha) (fun l1 Hl => ?_)
  refine xx_load_right hb hR (hX b hb) (hB b hb) (fun r1 Hr => ?_)
  refine xx_formProduct_left_right hR hR2 Hl Hr (hB a ha) (hB b hb) (fun p1 Hp => ?_)
  refine xx_tooLong hR hR2 Hp (rb_mlt (hB a ha) (hB b hb)) (fun z => br_t rfl ?_) (fun z => br_f (by decide) (h1 z _ _ _ _ _ _ hX))
  exact xx_store_product ha (rb_Hm Hp (by omega)) (fun c1 H1 K => h0 z _ _ _ _ _ _ (rb_Xs hX H1 K))
theorem xx_multiplyLow {post : Int32 → SX → Prop} {c l r q s p : Nat → Int32} {R a b : Nat} {V : Nat → Nat} (hR : 2 ≤ R) (hR2 : R ≤ 36) (hB : rb_B R V) (hX : rb_X R V c) (ha : a < 4) (hb : b < 4)
    (h0 : V a * V b < R ^ 24 → rb_PX R (rb_up V a (V a * V b % R ^ 24)) (post 0)) (h1 : R ^ 24 ≤ V a * V b → rb_PX R (rb_up V a (V a * V b % R ^ 24)) (post 1)) : wpX_multiplyLow post (nI R, c, l, r, q, s, p) (nI a) (nI b) := by
  unfold wpX_multiplyLow
  dsimp only
  refine xx_reg ha (br_f (by decide) (xx_reg hb (br_f (by decide) ?_)))
  refine xx_load_left ha hR (hX a ha) (hB a ha) (fun l1 Hl => ?_)
  refine xx_load_right hb hR (hX b hb) (hB b hb) (fun r1 Hr => ?_)
  refine xx_formProduct_left_right hR hR2 Hl Hr (hB a ha) (hB b hb) (fun p1 Hp => ?_)
  refine xx_store_product ha (rb_HM hR Hp (by omega)) (fun c1 H1 K => ?_)
  exact xx_tooLong hR hR2 Hp (rb_mlt (hB a ha) (hB b hb)) (fun z => br_t rfl (h0 z _ _ _ _ _ _ (rb_Xs hX H1 K))) (fun z => br_f (by decide) (h1 z _ _ _ _ _ _ (rb_Xs hX H1 K)))
theorem xx_compare {post : Int32 → SX → Prop} {c l r q s p : Nat → Int32} {R a b : Nat} {V : Nat → Nat} (hR : 2 ≤ R) (hR2 : R ≤ 36) (hB : rb_B R V) (hX : rb_X R V c) (ha : a < 4) (hb : b < 4)
    (h0 : V a = V b → rb_PX R V (post 0)) (h1 : V b < V a → rb_PX R V (post 1)) (h2 : V a < V b → rb_PX R V (post 2)) : wpX_compare post (nI R, c, l, r, q, s, p) (nI a) (nI b) := by
  unfold wpX_compare
  dsimp only
  refine xx_reg ha (br_f (by decide) (xx_reg hb (br_f (by decide) ?_)))
  refine xx_load_left ha hR (hX a ha) (hB a ha) (fun l1 Hl => ?_)
  refine xx_load_right hb hR (hX b hb) (hB b hb) (fun r1 Hr => ?_)
  exact xx_order_left_right hR hR2 Hl Hr (rb_w25 hR (hB a ha)) (rb_w25 hR (hB b hb)) (fun z => h0 z _ _ _ _ _ _ hX) (fun z => h1 z _ _ _ _ _ _ hX) (fun z => h2 z _ _ _ _ _ _ hX)
theorem xx_copy {post : Int32 → SX → Prop} {c l r q s p : Nat → Int32} {R a b : Nat} {V : Nat → Nat} (hR : 2 ≤ R) (hB : rb_B R V) (hX : rb_X R V c) (ha : a < 4) (hb : b < 4)
    (h0 : rb_PX R (rb_up V a (V b)) (post 0)) : wpX_copy post (nI R, c, l, r, q, s, p) (nI a) (nI b) := by
  unfold wpX_copy
  dsimp only
  refine xx_reg ha (br_f (by decide) (xx_reg hb (br_f (by decide) ?_)))
  refine xx_load_left hb hR (hX b hb) (hB b hb) (fun l1 Hl => ?_)
  exact xx_store_left ha (rb_Hm Hl (by omega)) (fun c1 H1 K => h0 _ _ _ _ _ _ (rb_Xs hX H1 K))
theorem xx_feed {post : Int32 → SX → Prop} {c l r q s p : Nat → Int32} {R a d : Nat} {V : Nat → Nat} (hR : 2 ≤ R) (hR2 : R ≤ 36) (hB : rb_B R V) (hX : rb_X R V c) (ha : a < 4) (hd : d < R)
    (h0 : rb_PX R (rb_up V a ((V a * R + d) % R ^ 24)) (post (nI (rb_dg R (V a) 23)))) : wpX_feed post (nI R, c, l, r, q, s, p) (nI a) (nI d) := by
  unfold wpX_feed
  dsimp only
  refine xx_reg ha (br_f (by decide) ?_)
  refine xx_digit hR2 hd (br_f (by decide) ?_)
  refine xx_load_left ha hR (hX a ha) (hB a ha) (fun l1 Hl => ?_)
  refine xx_pushDigit_left hR hd Hl (fun l2 H2 => ?_)
  refine xx_store_left ha (rb_HM hR H2 (by omega)) (fun c1 H1 K => ?_)
  have e : l2 24 = nI (rb_dg R (V a) 23) := by
    rw [rb_H0 H2 (by omega), rb_ph hR (V a) d 23 hd]
  show post (l2 24) _
  rw [e]
  exact h0 _ _ _ _ _ _ (rb_Xs hX H1 K)
/-! formQuotient -/
theorem xl_quot {post : SX → Prop} {c l r p : Nat → Int32} {R v w : Nat} (hR : 2 ≤ R) (hR2 : R ≤ 36) (Hv : rb_H R l 0 25 v) (Hw : rb_H R r 0 25 w) (hw0 : 0 < w) (hw : w < R ^ 24)
    (h : ∀ q' s', rb_H R q' 0 24 (v / w) → rb_H R s' 0 25 (v % w) → post (nI R, c, l, r, q', s', p)) :
    ∀ e q s, e ≤ 24 → (∀ k, e ≤ k → k < 24 → q k = nI (rb_dg R (v / w) k)) → rb_H R s 0 25 (v / R ^ e % w) → wX_formQuotient_10 post (e + 1) (nI e + (-1)) (nI R) c l r q s p
  | 0, q, s, _, hq, H => br_t (by rw [nI_0]; decide) (by
      rw [Nat.pow_zero, Nat.div_one] at H
      exact h q s (rb_H0i (fun i hi => hq i (Nat.zero_le i) hi)) H)
  | e + 1, q, s, l9, hq, H => by
    rw [pk_m1]
    have r1 : l (nI e).toNatClampNeg = nI (rb_dg R v e) := rb_rH0 Hv (by omega) rfl (by omega)
    refine br_f (nI_pos (by omega)) ⟨pk_in e 25 (by omega), ?_⟩
    rw [r1]
    refine xx_pushDigit_rest hR (rb_lt hR v e) H (fun s1 H1 => ?_)
    refine xx_takeOut hR hR2 H1 Hw hw0 hw (rb_ldb hR hw0 v e) (fun s2 H2 => ?_)
    rw [rb_ldr hw0] at H2
    refine ⟨pk_in e 24 (by omega), nm_r (e' := upd q e (nI (rb_dg R (v / w) e))) (by rw [nI_clamp (by omega), rb_ldq hR hw0]) (nm_e (xl_quot hR hR2 Hv Hw hw0 hw h e _ s2 (by omega) (fun k k1 k2 => ?_) H2))⟩
    by_cases e9 : k = e
    · rw [e9, pk_us]
    · rw [pk_un e9]
      exact hq k (by omega) k2
theorem xx_quot {post : SX → Prop} {c l r q s p : Nat → Int32} {R v w : Nat} (hR : 2 ≤ R) (hR2 : R ≤ 36) (Hv : rb_H R l 0 25 v) (hv : v < R ^ 24) (Hw : rb_H R r 0 25 w) (hw0 : 0 < w) (hw : w < R ^ 24)
    (h : ∀ q' s', rb_H R q' 0 24 (v / w) → rb_H R s' 0 25 (v % w) → post (nI R, c, l, r, q', s', p)) : wpX_formQuotient post (nI R, c, l, r, q, s, p) := by
  unfold wpX_formQuotient
  dsimp only
  refine xx_clear_rest (R := R) (fun s1 H1 => ⟨25, xl_quot hR hR2 Hv Hw hw0 hw h 24 q s1 (by omega) (fun k k1 k2 => absurd k2 (by omega)) ?_⟩)
  rw [Nat.div_eq_of_lt hv, Nat.zero_mod]
  exact H1
