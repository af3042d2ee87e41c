theorem yy_ok {post : Int32 → Prop} {F : Int32} {y : Nat → Int32} {a : Nat} (ha : a < 4) (h : post 0) : wpY_bad post (F, y) (nI a) :=
  br_f (nI_pos (by omega)) (br_t (nI_le (b := 3) (by omega) (by decide)) h)
theorem yy_bad {post : Int32 → Prop} {F : Int32} {y : Nat → Int32} {x : Int32} (hx : rb_bad x) (h : post 1) : wpY_bad post (F, y) x := by
  by_cases z : x < 0
  · exact br_t z h
  · obtain ⟨j, hj, rfl⟩ := nI_of z
    rcases hx with w | w
    · exact absurd w z
    · have w2 := (nI_leI (by decide) hj).mp w
      exact br_f z (br_f (nI_ge (a := 3) (by omega) hj) h)
theorem yy_add {post : Int32 → SY → Prop} {y : Nat → Int32} {R a b : Nat} {V : Nat → Nat} (hR : 2 ≤ R) (hR2 : R ≤ 36) (hB : rb_B R V) (hY : rb_Y R V y) (ha : a < 4) (hb : b < 4)
    (h0 : V a + V b < R ^ 24 → rb_PY R (rb_up V a (V a + V b)) (post 0)) (h1 : R ^ 24 ≤ V a + V b → rb_PY R V (post (-2))) : wpY_add post (nI R, y) (nI a) (nI b) := by
  unfold wpY_add
  dsimp only
  refine yy_ok ha (br_t rfl (yy_ok hb (br_t rfl ?_)))
  refine yy_copyRow (f := a) (t := 4) (by omega) (by omega) (hY a ha) (fun y1 H1 K1 => ?_)
  refine yy_addRow (r := 4) (s := b) (by omega) (by omega) (by omega) hR hR2 H1 (rb_KH K1 (by omega) (by omega) (hY b hb)) (fun y2 H2 K2 => ?_)
  have hY2 := rb_Yw (rb_Yw hY (by omega) K1) (by omega) K2
  have b1 : V a + V b < R ^ 50 := Nat.lt_of_lt_of_le (rb_sum25 hR (hB a ha) (hB b hb)) (rb_pm hR (by omega))
  refine yy_tooLong (r := 4) (by omega) hR hR2 H2 b1 (fun z => br_t rfl ?_) (fun z => br_f (by decide) (h1 z _ hY2))
  exact yy_copyRow (f := 4) (t := a) (by omega) (by omega) H2 (fun y3 H3 K3 => h0 z _ (rb_Ys hY2 H3 K3))
theorem yy_subtract {post : Int32 → SY → Prop} {y : Nat → Int32} {R a b : Nat} {V : Nat → Nat} (hR : 2 ≤ R) (hR2 : R ≤ 36) (hB : rb_B R V) (hY : rb_Y R V y) (ha : a < 4) (hb : b < 4)
    (h0 : V b ≤ V a → rb_PY R (rb_up V a (V a - V b)) (post 0)) (h1 : V a < V b → rb_PY R V (post (-2))) : wpY_subtract post (nI R, y) (nI a) (nI b) := by
  unfold wpY_subtract
  dsimp only
  refine yy_ok ha (br_t rfl (yy_ok hb (br_t rfl ?_)))
  refine yy_order (by omega) (by omega) hR hR2 (hY a ha) (hY b hb) (rb_w50 hR (hB a ha)) (rb_w50 hR (hB b hb)) (fun z => br_t (by decide) ?_) (fun z => br_t (by decide) ?_) (fun z => br_f (by decide) (h1 z _ hY))
  all_goals
    have z2 : V b ≤ V a := by omega
    refine yy_copyRow (f := b) (t := 4) (by omega) (by omega) (hY b hb) (fun y1 H1 K1 => ?_)
    exact yy_takeRow (r := a) (s := 4) (by omega) (by omega) (by omega) hR hR2 (rb_KH K1 (by omega) (by omega) (hY a ha)) H1 z2 (fun y2 H2 K2 => h0 z2 _ (rb_Ys (rb_Yw hY (by omega) K1) H2 K2))
theorem yy_multiply {post : Int32 → SY → Prop} {y : Nat → Int32} {R a b : Nat} {V : Nat → Nat} (hR : 2 ≤ R) (hR2 : R ≤ 36) (hB : rb_B R V) (hY : rb_Y R V y) (ha : a < 4) (hb : b < 4)
    (h0 : V a * V b < R ^ 24 → rb_PY R (rb_up V a (V a * V b)) (post 0)) (h1 : R ^ 24 ≤ V a * V b → rb_PY R V (post (-2))) : wpY_multiply post (nI R, y) (nI a) (nI b) := by
  unfold wpY_multiply
  dsimp only
  refine yy_ok ha (br_t rfl (yy_ok hb (br_t rfl ?_)))
  refine yy_multiplyRow (t := 4) (by omega) (by omega) (by omega) (by omega) (by omega) hR hR2 (hB a ha) (hB b hb) (rb_Hm (hY a ha) (by omega)) (rb_Hm (hY b hb) (by omega)) (fun y1 H1 K1 => ?_)
  have hY1 := rb_Yw hY (by omega) K1
  have b1 : V a * V b < R ^ 50 := Nat.lt_of_lt_of_le (rb_mlt (hB a ha) (hB b hb)) (rb_pm hR (by omega))
  refine yy_tooLong (r := 4) (by omega) hR hR2 H1 b1 (fun z => br_t rfl ?_) (fun z => br_f (by decide) (h1 z _ hY1))
  exact yy_copyRow (f := 4) (t := a) (by omega) (by omega) H1 (fun y3 H3 K3 => h0 z _ (rb_Ys hY1 H3 K3))
theorem yl_low {post : Int32 → SY → Prop} {y : Nat → Int32} {R a v : Nat} {V : Nat → Nat} {z : Int32} (hR : 2 ≤ R) (hY : rb_Y R V y) (ha : a < 4) (H : rb_H R y (50 * 4) 50 v)
    (h : rb_PY R (rb_up V a (v % R ^ 24)) (post z)) : ∀ d i, i + d = 50 → 24 ≤ i → wY_multiplyLow_43 post (nI a) z (nI R) (d + 1) (nI i) (rb_ov y (50 * 4) 24 i (fun _ => 0))
  | 0, i, e, _ => br_t (nI_le (a := 50) (by omega) (by omega)) (by
      have e2 : i = 50 := by omega
      subst e2
      have H2 : rb_H R (rb_ov y (50 * 4) 24 50 (fun _ => 0)) (50 * 4) 50 (v % R ^ 24) := by
        refine rb_HX (n := 24) hR (fun i hi => ?_) (Nat.mod_lt _ (rb_pp hR 24)) (fun i i1 i2 => rb_ovI i1 i2)
        rw [rb_ovH H (by omega) (by omega), rb_dgM hR v hi]
      exact yy_copyRow (f := 4) (t := a) (by omega) (by omega) H2 (fun y3 H3 K3 => h _ (rb_Ys (rb_Yw hY (by omega) (rb_ovK (by omega))) H3 K3)))
  | d + 1, i, e, l => by
    have x1 : (200 : Int32) + nI i = nI (50 * 4 + i) := by rw [show (200 : Int32) = nI 200 from rfl, nI_add]
    exact br_f (nI_ge (b := 50) (by omega) (by decide)) ⟨pk_in (50 * 4 + i) 500 (by omega) x1, nm_r (rb_wu x1 (by omega) rfl l) (nm_r (nI_1 i) (yl_low hR hY ha H h d (i + 1) (by omega) (by omega)))⟩
theorem yy_multiplyLow {post : Int32 → SY → Prop} {y : Nat → Int32} {R a b : Nat} {V : Nat → Nat} (hR : 2 ≤ R) (hR2 : R ≤ 36) (hB : rb_B R V) (hY : rb_Y R V y) (ha : a < 4) (hb : b < 4)
    (h0 : V a * V b < R ^ 24 → rb_PY R (rb_up V a (V a * V b % R ^ 24)) (post 0)) (h1 : R ^ 24 ≤ V a * V b → rb_PY R (rb_up V a (V a * V b % R ^ 24)) (post 1)) : wpY_multiplyLow post (nI R, y) (nI a) (nI b) := by
  unfold wpY_multiplyLow
  dsimp only
  refine yy_ok ha (br_t rfl (yy_ok hb (br_t rfl ?_)))
  refine yy_multiplyRow (t := 4) (by omega) (by omega) (by omega) (by omega) (by omega) hR hR2 (hB a ha) (hB b hb) (rb_Hm (hY a ha) (by omega)) (rb_Hm (hY b hb) (by omega)) (fun y1 H1 K1 => ?_)
  have hY1 := rb_Yw hY (by omega) K1
  have b1 : V a * V b < R ^ 50 := Nat.lt_of_lt_of_le (rb_mlt (hB a ha) (hB b hb)) (rb_pm hR (by omega))
  refine yy_tooLong (r := 4) (by omega) hR hR2 H1 b1 (fun z => br_t rfl ⟨27, ?_⟩) (fun z => br_f (by decide) ⟨27, ?_⟩)
  · have w := yl_low hR hY1 ha H1 (h0 z) 26 24 (by omega) (by omega)
    rw [rb_ovE] at w
    exact w
  · have w := yl_low hR hY1 ha H1 (h1 z) 26 24 (by omega) (by omega)
    rw [rb_ovE] at w
    exact w
theorem yy_compare {post : Int32 → Prop} {y : Nat → Int32} {R a b : Nat} {V : Nat → Nat} (hR : 2 ≤ R) (hR2 : R ≤ 36) (hB : rb_B R V) (hY : rb_Y R V y) (ha : a < 4) (hb : b < 4)
    (h0 : V a = V b → post 0) (h1 : V b < V a → post 1) (h2 : V a < V b → post 2) : wpY_compare post (nI R, y) (nI a) (nI b) := by
  unfold wpY_compare
  dsimp only
  refine yy_ok ha (br_t rfl (yy_ok hb (br_t rfl ?_)))
  exact yy_order (by omega) (by omega) hR hR2 (hY a ha) (hY b hb) (rb_w50 hR (hB a ha)) (rb_w50 hR (hB b hb)) (fun z => br_t (by decide) (h0 z)) (fun z => br_t (by decide) (h1 z)) (fun z => br_f (by decide) (h2 z))
theorem yy_copy {post : Int32 → SY → Prop} {y : Nat → Int32} {R a b : Nat} {V : Nat → Nat} (hY : rb_Y R V y) (ha : a < 4) (hb : b < 4)
    (h0 : rb_PY R (rb_up V a (V b)) (post 0)) : wpY_copy post (nI R, y) (nI a) (nI b) := by
  unfold wpY_copy
  dsimp only
  refine yy_ok ha (br_t rfl (yy_ok hb (br_t rfl ?_)))
  exact yy_copyRow (f := b) (t := a) (by omega) (by omega) (hY b hb) (fun y3 H3 K3 => h0 _ (rb_Ys hY H3 K3))
theorem yy_feed {post : Int32 → SY → Prop} {y : Nat → Int32} {R a d : Nat} {V : Nat → Nat} (hR : 2 ≤ R) (hR2 : R ≤ 36) (hB : rb_B R V) (hY : rb_Y R V y) (ha : a < 4) (hd : d < R)
    (h0 : rb_PY R (rb_up V a ((V a * R + d) % R ^ 24)) (post (nI (rb_dg R (V a) 23)))) : wpY_feed post (nI R, y) (nI a) (nI d) := by
  unfold wpY_feed
  dsimp only
  have x1 : (50 : Int32) * nI a + 23 = nI (50 * a + 23) := rb_x50 a 23
  have x2 : (50 : Int32) * nI a + 24 = nI (50 * a + 24) := rb_x50 a 24
  refine yy_ok ha (br_t rfl (br_f (nI_pos (by omega)) (br_t (nI_lt hd (by omega)) ⟨pk_in (50 * a + 23) 500 (by omega) x1, nm_r (rb_rH (hY a ha) (by omega) x1 (by omega)) ?_⟩)))
  refine yy_feedRow (by omega) hR hd (hY a ha) (fun y1 H1 K1 => ⟨pk_in (50 * a + 24) 500 (by omega) x2, nm_r (e' := upd y1 (50 * a + 24) 0) (by rw [x2, nI_clamp (by omega)]) (h0 _ (rb_Ys hY ?_ (rb_Kt K1 (rb_Ku (by omega)))))⟩)
  have b1 : V a * R + d < R ^ 25 := rb_pb hR (hB a ha) hd
  intro k hk
  by_cases e : k = 24
  · rw [e, pk_us, rb_hi hR (Nat.mod_lt _ (rb_pp hR 24)) (Nat.le_refl 24)]
    rfl
  · rw [pk_un (by omega), H1 k hk]
    by_cases c : k < 24
    · rw [rb_dgM hR _ c]
    · rw [rb_hi hR b1 (by omega), rb_hi hR (Nat.mod_lt _ (rb_pp hR 24)) (by omega)]
