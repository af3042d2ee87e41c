/-! divideRow: all but rows t and 9 is as it was -/
def rb_K2 (t : Nat) (a b : Nat → Int32) : Prop := ∀ j, (j < 50 * t ∨ 50 * t + 50 ≤ j) → (j < 450 ∨ 500 ≤ j) → b j = a j
theorem rb_K2q {t : Nat} {a b c : Nat → Int32} (h : rb_K2 t a b) (k : rb_K t b c) : rb_K2 t a c := fun j h1 h2 => by rw [k j h1, h j h1 h2]
theorem rb_K29 {t : Nat} {a b c : Nat → Int32} (h : rb_K2 t a b) (k : rb_K 9 b c) : rb_K2 t a c := fun j h1 h2 => by rw [k j (by omega), h j h1 h2]
theorem rb_K2H {R t r n v : Nat} {a b : Nat → Int32} (k : rb_K2 t a b) (h : r ≠ t) (h9 : r < 9) (hn : n ≤ 50) (H : rb_H R a (50 * r) n v) : rb_H R b (50 * r) n v := by
  intro i hi
  rw [k (50 * r + i) (by omega) (by omega), H i hi]
theorem rb_QK {R t r e v : Nat} {a b : Nat → Int32} (k : rb_K t a b) (h : r ≠ t) (H : rb_Q R a (50 * r) 50 e v) : rb_Q R b (50 * r) 50 e v := by
  intro i hi
  rw [k (50 * r + i) (by omega), H i hi]
theorem yl_divIn {post : SY → Prop} {J : Int32 → Int32 → (Nat → Int32) → Prop} {R x w b i : Nat} {z1 z2 : Int32} {y0 : Nat → Int32} (hR : 2 ≤ R) (hR2 : R ≤ 36) (hb : b < 9) (Hw : rb_H R y0 (50 * b) 50 w) (hw0 : 0 < w) (hw : w < R ^ 24) (hx : x < w * R)
    (h : ∀ y', rb_H R y' (50 * 9) 50 (x % w) → rb_K 9 y0 y' → wY_divideRow_73 post J z1 z2 (nI b) (nI i) (nI (x / w)) (nI R) y') :
    ∀ d m y, m + d = x / w → rb_H R y (50 * 9) 50 (x - m * w) → rb_K 9 y0 y → wY_divideRow_43 post J z1 z2 (nI b) (nI i) (d + 1) (nI m) (nI R) y
  | 0, m, y, e, H, K => by
    have e2 : m = x / w := by omega
    subst e2
    have b1 := rb_qb hw0 hx
    rw [rb_tl hw0] at H
    have b2 : x % w < w := Nat.mod_lt x hw0
    have b3 := rb_w50 hR hw
    refine br_f (nI_ge (b := 36) (by omega) (by decide)) (yy_order (r := 9) (by omega) (by omega) hR hR2 H (rb_KH K (by omega) (by omega) Hw) (Nat.lt_trans b2 b3) b3 (fun z => absurd z (by omega)) (fun z => absurd z (by omega)) (fun _ => ?_))
    exact br_t (by decide) (h y H K)
  | d + 1, m, y, e, H, K => by
    have b1 := rb_qb hw0 hx
    have b3 := rb_w50 hR hw
    have b4 : x < R ^ 50 := Nat.lt_of_lt_of_le (rb_xb hw hx) (rb_pm hR (by omega))
    obtain ⟨t1, t2⟩ := rb_to (x := x) (m := m) hw0 (by omega)
    have Hb := rb_KH K (by omega : b ≠ 9) (by omega) Hw
    refine br_f (nI_ge (b := 36) (by omega) (by decide)) (yy_order (r := 9) (by omega) (by omega) hR hR2 H Hb (by omega) b3 (fun z => ?_) (fun z => ?_) (fun z => absurd z (by omega)))
    all_goals
      refine br_f (by decide) (yy_takeRow (r := 9) (by omega) (by omega) (by omega) hR hR2 H Hb t1 (fun y' H' K' => nm_r (nI_1 m) ?_))
      rw [t2] at H'
      exact yl_divIn hR hR2 hb Hw hw0 hw hx h d (m + 1) y' (by omega) H' (rb_Kt K K')
theorem yl_div {post : SY → Prop} {y0 : Nat → Int32} {R q a b v w : Nat} (hR : 2 ≤ R) (hR2 : R ≤ 36) (hq : q < 9) (ha : a < 9) (hb : b < 9) (n1 : a ≠ q) (n2 : b ≠ q) (n3 : a ≠ b)
    (Hv : rb_H R y0 (50 * a) 50 v) (Hw : rb_H R y0 (50 * b) 50 w) (hw0 : 0 < w) (hv : v < R ^ 24) (hw : w < R ^ 24)
    (h : ∀ y', rb_H R y' (50 * q) 50 (v / w) → rb_H R y' (50 * a) 50 (v % w) → (∀ r x, r < 9 → r ≠ q → r ≠ a → rb_H R y0 (50 * r) 50 x → rb_H R y' (50 * r) 50 x) → post (nI R, y')) :
    ∀ e y, e ≤ 24 → rb_Q R y (50 * q) 50 e (v / w) → rb_H R y (50 * 9) 50 (v / R ^ e % w) → rb_K2 q y0 y → wY_divideRow_17 post (nI q) (nI a) (nI b) (e + 1) (nI e + (-1)) (nI R) y
  | 0, y, _, hQ, H, K => br_t (by rw [nI_0]; decide) (by
      rw [Nat.pow_zero, Nat.div_one] at H
      refine yy_copyRow (f := 9) (t := a) (by omega) (by omega) H (fun y1 H1 K1 => h y1 (rb_KH K1 (Ne.symm n1) (by omega) (rb_Q0 hQ)) H1 (fun r x r9 r1 r2 Hx => ?_))
      exact rb_KH K1 r2 (by omega) (rb_K2H K r1 r9 (by omega) Hx))
  | e + 1, y, l9, hQ, H, K => by
    rw [pk_m1]
    have r1 : y (50 * nI a + nI e).toNatClampNeg = nI (rb_dg R v e) := rb_rH (rb_K2H K n1 ha (by omega) Hv) (by omega) (rb_x50 a e) (by omega)
    refine br_f (nI_pos (by omega)) ⟨pk_in (50 * a + e) 500 (by omega) (rb_x50 a e), ?_⟩
    rw [r1]
    refine yy_feedRow (r := 9) (by omega) hR (rb_lt hR v e) H (fun y1 H1 K1 => ?_)
    have K1' := rb_K29 K K1
    have xb := rb_ldb hR hw0 v e
    refine ⟨_, yl_divIn hR hR2 hb (rb_K2H K1' n2 hb (by omega) Hw) hw0 hw xb (fun y2 H2 K2 => ?_) ((v / R ^ (e + 1) % w * R + rb_dg R v e) / w) 0 y1 (by omega) (by rw [Nat.zero_mul, Nat.sub_zero]; exact H1) (rb_Kr _ _)⟩
    rw [rb_ldr hw0] at H2
    have K2' := rb_K29 K1' K2
    have hQ2 := rb_QK K2 (by omega) (rb_QK K1 (by omega : q ≠ 9) hQ)
    refine ⟨pk_in (50 * q + e) 500 (by omega) (rb_x50 q e), nm_r (e' := upd y2 (50 * q + e) (nI (rb_dg R (v / w) e))) (by rw [rb_x50, nI_clamp (by omega), rb_ldq hR hw0]) (nm_e ?_)⟩
    have K3 : rb_K q y2 (upd y2 (50 * q + e) (nI (rb_dg R (v / w) e))) := rb_Ku (by omega)
    exact yl_div hR hR2 hq ha hb n1 n2 n3 Hv Hw hw0 hv hw h e _ (by omega) (rb_Qs hQ2 (by omega)) (rb_KH K3 (by omega) (by omega) H2) (rb_K2q K2' K3)
theorem yy_div {post : SY → Prop} {y : Nat → Int32} {R q a b v w : Nat} (hR : 2 ≤ R) (hR2 : R ≤ 36) (hq : q < 9) (ha : a < 9) (hb : b < 9) (n1 : a ≠ q) (n2 : b ≠ q) (n3 : a ≠ b)
    (Hv : rb_H R y (50 * a) 50 v) (Hw : rb_H R y (50 * b) 50 w) (hw0 : 0 < w) (hv : v < R ^ 24) (hw : w < R ^ 24)
    (h : ∀ y', rb_H R y' (50 * q) 50 (v / w) → rb_H R y' (50 * a) 50 (v % w) → (∀ r x, r < 9 → r ≠ q → r ≠ a → rb_H R y (50 * r) 50 x → rb_H R y' (50 * r) 50 x) → post (nI R, y')) : wpY_divideRow post (nI R, y) (nI q) (nI a) (nI b) := by
  unfold wpY_divideRow
  dsimp only
  refine yy_setRow (R := R) (t := q) (d := 0) (by omega) hR (by omega) (fun y1 H1 K1 => ?_)
  refine yy_setRow (R := R) (t := 9) (d := 0) (by omega) hR (by omega) (fun y2 H2 K2 => ⟨25, ?_⟩)
  refine yl_div hR hR2 hq ha hb n1 n2 n3 Hv Hw hw0 hv hw h 24 y2 (by omega) ?_ ?_ (rb_K29 (rb_K2q (fun j _ _ => rfl) K1) K2)
  · intro k hk
    rw [rb_KH K2 (by omega : q ≠ 9) (by omega) H1 k hk, rb_z]
    by_cases c : k < 24
    · rw [if_pos c]
    · rw [if_neg c, rb_hi hR (Nat.lt_of_le_of_lt (Nat.div_le_self v w) hv) (by omega)]
  · rw [Nat.div_eq_of_lt hv, Nat.zero_mod]
    exact H2
theorem yy_divide {post : Int32 → SY → Prop} {y : Nat → Int32} {R d a b : Nat} {V : Nat → Nat} (hR : 2 ≤ R) (hR2 : R ≤ 36) (hB : rb_B R V) (hY : rb_Y R V y) (hd : d < 4) (ha : a < 4) (hb : b < 4) (n1 : d ≠ a) (n2 : d ≠ b) (n3 : a ≠ b)
    (h0 : V b ≠ 0 → rb_PY R (rb_up (rb_up V d (V a / V b)) a (V a % V b)) (post 0)) (h1 : V b = 0 → rb_PY R V (post (-3))) : wpY_divide post (nI R, y) (nI d) (nI a) (nI b) := by
  unfold wpY_divide
  dsimp only
  refine yy_ok hd (br_t rfl (yy_ok ha (br_t rfl (yy_ok hb (br_t rfl ?_)))))
  refine br_f (fun z => n1 ((nI_eq (by omega) (by omega)).mp z)) (br_f (fun z => n2 ((nI_eq (by omega) (by omega)).mp z)) (br_f (fun z => n3 ((nI_eq (by omega) (by omega)).mp z)) ?_))
  refine yy_zero (by omega) hR hR2 (hY b hb) (rb_w50 hR (hB b hb)) (fun z => br_t rfl ?_) (fun z => br_f (by decide) (h1 z _ hY))
  refine yy_div hR hR2 (by omega) (by omega) (by omega) (Ne.symm n1) (Ne.symm n2) n3 (hY a ha) (hY b hb) (Nat.pos_of_ne_zero z) (hB a ha) (hB b hb) (fun y1 H1 H2 K => h0 z _ (fun r hr => ?_))
  by_cases e : r = a
  · rw [e, rb_upS]
    exact H2
  · rw [rb_upN e]
    by_cases e2 : r = d
    · rw [e2, rb_upS]
      exact H1
    · rw [rb_upN e2]
      exact K r _ (by omega) e2 e (hY r hr)
/-! divisor -/
theorem yl_divisor {post : Int32 → SY → Prop} {R a G : Nat} {V : Nat → Nat} (hR : 2 ≤ R) (hR2 : R ≤ 36) (ha : a < 4)
    (h : rb_PY R (rb_up V a G) (post 0)) :
    ∀ d k u w y, k + d = 400 → u < R ^ 24 → w < R ^ 24 → Nat.gcd u w = G → (w = 0 ∨ rb_E k u w) → rb_H R y (50 * 5) 50 u → rb_H R y (50 * 6) 50 w → rb_Y R V y → wY_divisor_33 post (nI a) (d + 1) (nI k) (nI R) y
  | 0, k, u, w, y, e, hu, hw, hg, hE, Hu, Hw, hY => br_t (nI_le (a := 400) (by omega) (by omega)) (by
      have z : w = 0 := hE.elim id (fun z => rb_Ee z (by omega))
      rw [z, Nat.gcd_zero_right] at hg
      rw [hg] at Hu
      exact yy_copyRow (f := 5) (t := a) (by omega) (by omega) Hu (fun y1 H1 K1 => h _ (rb_Ys hY H1 K1)))
  | d + 1, k, u, w, y, e, hu, hw, hg, hE, Hu, Hw, hY => by
    refine br_f (nI_ge (b := 400) (by omega) (by decide)) (yy_zero (r := 6) (by omega) hR hR2 Hw (rb_w50 hR hw) (fun z => br_t rfl ?_) (fun z => br_f (by decide) (nm_r (nI_1 k) (yl_divisor hR hR2 ha h d (k + 1) u w y (by omega) hu hw hg (Or.inl z) Hu Hw hY))))
    have w0 := Nat.pos_of_ne_zero z
    have m := Nat.mod_lt u w0
    refine yy_div (q := 7) (a := 5) (b := 6) hR hR2 (by omega) (by omega) (by omega) (by omega) (by omega) (by omega) Hu Hw w0 hu hw (fun y1 H1 H2 K1 => ?_)
    refine yy_copyRow (f := 5) (t := 8) (by omega) (by omega) H2 (fun y2 H3 K2 => ?_)
    have Hw2 := rb_KH K2 (by omega : 6 ≠ 8) (by omega) (K1 6 w (by omega) (by omega) (by omega) Hw)
    refine yy_copyRow (f := 6) (t := 5) (by omega) (by omega) Hw2 (fun y3 H4 K3 => ?_)
    refine yy_copyRow (f := 8) (t := 6) (by omega) (by omega) (rb_KH K3 (by omega : 8 ≠ 5) (by omega) H3) (fun y4 H5 K4 => nm_r (nI_1 k) ?_)
    refine yl_divisor hR hR2 ha h d (k + 1) w (u % w) y4 (by omega) hw (Nat.lt_trans m hw) (by rw [rb_gc]; exact hg) (Or.inr (rb_Es w0 (hE.resolve_left z))) (rb_KH K4 (by omega : 5 ≠ 6) (by omega) H4) H5 ?_
    have hY1 : rb_Y R V y1 := fun r hr => K1 r _ (by omega) (by omega) (by omega) (hY r hr)
    exact rb_Yw (rb_Yw (rb_Yw hY1 (by omega) K2) (by omega) K3) (by omega) K4
theorem yy_divisor {post : Int32 → SY → Prop} {y : Nat → Int32} {R a b : Nat} {V : Nat → Nat} (hR : 2 ≤ R) (hR2 : R ≤ 36) (hB : rb_B R V) (hY : rb_Y R V y) (ha : a < 4) (hb : b < 4)
    (h : rb_PY R (rb_up V a (Nat.gcd (V a) (V b))) (post 0)) : wpY_divisor post (nI R, y) (nI a) (nI b) := by
  unfold wpY_divisor
  dsimp only
  refine yy_ok ha (br_t rfl (yy_ok hb (br_t rfl ?_)))
  refine yy_copyRow (f := a) (t := 5) (by omega) (by omega) (hY a ha) (fun y1 H1 K1 => ?_)
  refine yy_copyRow (f := b) (t := 6) (by omega) (by omega) (rb_KH K1 (by omega) (by omega) (hY b hb)) (fun y2 H2 K2 => ⟨401, ?_⟩)
  exact yl_divisor hR hR2 ha h 400 0 (V a) (V b) y2 (by omega) (hB a ha) (hB b hb) rfl (Or.inr (rb_E0 hR2 (hB a ha) (hB b hb))) (rb_KH K2 (by omega : 5 ≠ 6) (by omega) H1) H2 (rb_Yw (rb_Yw hY (by omega) K1) (by omega) K2)
/-! power -/
theorem yl_power {post : Int32 → SY → Prop} {R a n : Nat} {V : Nat → Nat} (hR : 2 ≤ R) (hR2 : R ≤ 36) (ha : a < 4) (hB : rb_B R V) (hn : n ≤ 100)
    (h0 : (∀ j, j ≤ n → V a ^ j < R ^ 24) → rb_PY R (rb_up V a (V a ^ n)) (post 0)) (h1 : (∃ j, j ≤ n ∧ R ^ 24 ≤ V a ^ j) → rb_PY R V (post (-3))) :
    ∀ d k y, k + d = n → (∀ j, j ≤ k → V a ^ j < R ^ 24) → rb_H R y (50 * 5) 50 (V a ^ k) → rb_Y R V y → wY_power_31 post (nI a) (nI n) (d + 1) (nI k) (nI R) y
  | 0, k, y, e, z, H, hY => br_t (nI_le (by omega) (by omega)) (by
      have e2 : k = n := by omega
      subst e2
      exact yy_copyRow (f := 5) (t := a) (by omega) (by omega) H (fun y1 H1 K1 => h0 z _ (rb_Ys hY H1 K1)))
  | d + 1, k, y, e, z, H, hY => by
    have zk := z k (Nat.le_refl k)
    refine br_f (nI_ge (by omega) (by omega)) (yy_multiplyRow (t := 6) (r := 5) (s := a) (by omega) (by omega) (by omega) (by omega) (by omega) hR hR2 zk (hB a ha) (rb_Hm H (by omega)) (rb_Hm (hY a ha) (by omega)) (fun y1 H1 K1 => ?_))
    rw [← Nat.pow_succ] at H1
    have b1 : V a ^ (k + 1) < R ^ 50 := by
      rw [Nat.pow_succ]
      exact Nat.lt_of_lt_of_le (rb_mlt zk (hB a ha)) (rb_pm hR (by omega))
    have hY1 := rb_Yw hY (by omega) K1
    refine yy_tooLong (r := 6) (by omega) hR hR2 H1 b1 (fun x => br_t rfl ?_) (fun x => br_f (by decide) (h1 ⟨k + 1, by omega, x⟩ _ hY1))
    refine yy_copyRow (f := 6) (t := 5) (by omega) (by omega) H1 (fun y2 H2 K2 => nm_r (nI_1 k) ?_)
    refine yl_power hR hR2 ha hB hn h0 h1 d (k + 1) y2 (by omega) (fun j hj => ?_) H2 (rb_Yw hY1 (by omega) K2)
    by_cases e9 : j = k + 1
    · rw [e9]
      exact x
    · exact z j (by omega)
theorem yy_power {post : Int32 → SY → Prop} {y : Nat → Int32} {R a n : Nat} {V : Nat → Nat} (hR : 2 ≤ R) (hR2 : R ≤ 36) (hB : rb_B R V) (hY : rb_Y R V y) (ha : a < 4) (hn : n ≤ 100)
    (h0 : (∀ j, j ≤ n → V a ^ j < R ^ 24) → rb_PY R (rb_up V a (V a ^ n)) (post 0)) (h1 : (∃ j, j ≤ n ∧ R ^ 24 ≤ V a ^ j) → rb_PY R V (post (-3))) : wpY_power post (nI R, y) (nI a) (nI n) := by
  unfold wpY_power
  dsimp only
  refine yy_ok ha (br_t rfl (br_f (nI_pos (by omega)) (br_t (nI_le (b := 100) hn (by decide)) ?_)))
  refine yy_setRow (R := R) (t := 5) (d := 1) (by omega) hR (by omega) (fun y1 H1 K1 => ⟨n + 1, ?_⟩)
  refine yl_power hR hR2 ha hB hn h0 h1 n 0 y1 (by omega) (fun j hj => ?_) (by rw [Nat.pow_zero]; exact H1) (rb_Yw hY (by omega) K1)
  have e : j = 0 := by omega
  rw [e, Nat.pow_zero]
  exact Nat.one_lt_pow (by decide) (by omega)
/-! root: from place 12 -/
theorem yl_rootIn {post : Int32 → SY → Prop} {J : Int32 → Int32 → (Nat → Int32) → Prop} {R A t i a : Nat} {V : Nat → Nat} (hR : 2 ≤ R) (hR2 : R ≤ 36) (ha : a < 4) (hA : A < R ^ 24) (eA : V a = A) (h1 : t * t ≤ A) (h2 : A < (t + 1) * (t + 1)) (hi : i < 13)
    (hJ : ∀ y', rb_H R y' (50 * 5) 50 (t / R ^ i * R ^ i) → rb_Y R V y' → J (nI i + (-1)) (nI R) y') :
    ∀ e y, rb_dg R t i < e → e ≤ R → (∀ k, k < 50 → k ≠ i → y (50 * 5 + k) = nI (if k < i then 0 else rb_dg R t k)) → rb_Y R V y → wY_root_33 post J (nI a) (nI i) (e + 1) 0 (nI e + (-1)) (nI R) y
  | 0, _, x, _, _, _ => absurd x (Nat.not_lt_zero _)
  | e + 1, y, x1, x2, hy, hY => by
    rw [pk_m1]
    have tb := rb_sqb hA h1
    have H := rb_rcw (d := e) hR (by omega) hy
    have cb : rb_rc R t i e < R ^ 13 := rb_rcb hR (Nat.lt_of_lt_of_le tb (rb_pm hR (by omega))) hi (by omega)
    have cb24 : rb_rc R t i e < R ^ 24 := Nat.lt_of_lt_of_le cb (rb_pm hR (by omega))
    have sb : rb_rc R t i e * rb_rc R t i e < R ^ 50 := Nat.lt_of_lt_of_le (rb_mlt cb cb) (rb_pm hR (by omega))
    have z1 : (250 : Int32) + nI i = nI (50 * 5 + i) := by rw [show (250 : Int32) = nI 250 from rfl, nI_add]
    have hY1 : rb_Y R V (upd y (50 * 5 + i) (nI e)) := rb_Yw hY (by omega) (rb_Ku (t := 5) (by omega))
    refine br_f (nI_pos (by omega)) (br_t rfl ⟨pk_in (50 * 5 + i) 500 (by omega) z1, nm_r (e' := upd y (50 * 5 + i) (nI e)) (by rw [z1, nI_clamp (by omega)]) ?_⟩)
    refine yy_multiplyRow (t := 6) (r := 5) (s := 5) (by omega) (by omega) (by omega) (by omega) (by omega) hR hR2 cb24 cb24 (rb_Hm H (by omega)) (rb_Hm H (by omega)) (fun y1 H1 K1 => ?_)
    have hY2 := rb_Yw hY1 (by omega) K1
    have cc := rb_sqc (rb_rc R t i e) h1 h2
    have cl := rb_rcl hR t i e
    have H5 := rb_KH K1 (by omega : 5 ≠ 6) (by omega) H
    have go : e ≤ rb_dg R t i → wY_root_33 post J (nI a) (nI i) (e + 1) 1 (nI e + (-1)) (nI R) y1 := by
      intro z
      have e2 : e = rb_dg R t i := by omega
      rw [e2, rb_rcs] at H5
      by_cases e0 : e = 0
      · rw [e0]
        exact br_t (by rw [nI_0]; decide) (nm_e (hJ _ H5 hY2))
      · obtain ⟨f, rfl⟩ : ∃ f, e = f + 1 := ⟨e - 1, by omega⟩
        rw [pk_m1]
        exact br_f (nI_pos (by omega)) (br_f (by decide) (nm_e (hJ _ H5 hY2)))
    have Ha := hY2 a ha
    rw [eA] at Ha
    refine yy_order (r := 6) (s := a) (by omega) (by omega) hR hR2 H1 Ha sb (rb_w50 hR hA) (fun z => br_f (by decide) (nm_e (go (cl.mp (cc.mp (by omega)))))) (fun z => br_t (by decide) (nm_e ?_)) (fun z => br_f (by decide) (nm_e (go (cl.mp (cc.mp (by omega))))))
    have y3 : ¬ e ≤ rb_dg R t i := fun x => absurd (cc.mpr (cl.mpr x)) (by omega)
    refine yl_rootIn hR hR2 ha hA eA h1 h2 hi hJ e y1 (by omega) (by omega) (fun k k1 k2 => ?_) hY2
    rw [K1 (50 * 5 + k) (by omega), pk_un (by omega), hy k k1 k2]
theorem yl_root {post : Int32 → SY → Prop} {R A t a : Nat} {V : Nat → Nat} (hR : 2 ≤ R) (hR2 : R ≤ 36) (ha : a < 4) (hA : A < R ^ 24) (eA : V a = A) (h1 : t * t ≤ A) (h2 : A < (t + 1) * (t + 1))
    (h : rb_PY R (rb_up V a t) (post 0)) :
    ∀ e y, e ≤ 13 → rb_H R y (50 * 5) 50 (t / R ^ e * R ^ e) → rb_Y R V y → wY_root_19 post (nI a) (e + 1) (nI e + (-1)) (nI R) y
  | 0, y, _, H, hY => br_t (by rw [nI_0]; decide) (by
      rw [Nat.pow_zero, Nat.div_one, Nat.mul_one] at H
      exact yy_copyRow (f := 5) (t := a) (by omega) (by omega) H (fun y1 H1 K1 => h _ (rb_Ys hY H1 K1)))
  | e + 1, y, l9, H, hY => by
    rw [pk_m1]
    refine br_f (nI_pos (by omega)) (nm_r (e' := nI R + (-1)) (Int32.sub_eq_add_neg (nI R) 1) ⟨R + 1, ?_⟩)
    exact yl_rootIn hR hR2 ha hA eA h1 h2 (by omega) (fun y1 H1 hY1 => yl_root hR hR2 ha hA eA h1 h2 h e y1 (by omega) H1 hY1) R y (rb_lt hR t e) (Nat.le_refl R) (rb_rch hR H) hY
theorem yy_root {post : Int32 → SY → Prop} {y : Nat → Int32} {R t a : Nat} {V : Nat → Nat} (hR : 2 ≤ R) (hR2 : R ≤ 36) (hB : rb_B R V) (hY : rb_Y R V y) (ha : a < 4) (h1 : t * t ≤ V a) (h2 : V a < (t + 1) * (t + 1))
    (h : rb_PY R (rb_up V a t) (post 0)) : wpY_root post (nI R, y) (nI a) := by
  unfold wpY_root
  dsimp only
  refine yy_ok ha (br_t rfl ?_)
  refine yy_setRow (R := R) (t := 5) (d := 0) (by omega) hR (by omega) (fun y1 H1 K1 => ⟨14, ?_⟩)
  refine yl_root hR hR2 ha (hB a ha) rfl h1 h2 h 13 y1 (by omega) ?_ (rb_Yw hY (by omega) K1)
  rw [Nat.div_eq_of_lt (Nat.lt_of_lt_of_le (rb_sqb (hB a ha) h1) (rb_pm hR (by omega))), Nat.zero_mul]
  exact H1
