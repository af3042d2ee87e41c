theorem yy_cut {post : Int32 → SY → Prop} {y : Nat → Int32} {R v m : Nat} (hR : 2 ≤ R) (hR2 : R ≤ 36) (hm : 0 < m) (hm2 : m ≤ 1000000) (H : rb_H R y (50 * 5) 50 v) (hv : v < R ^ 24)
    (h : ∀ y', rb_H R y' (50 * 5) 50 (v / m) → rb_K 5 y y' → post (nI (v % m)) (nI R, y')) : wpY_cut post (nI R, y) (nI m) := by
  have hq : v / m < R ^ 24 := Nat.lt_of_le_of_lt (Nat.div_le_self v m) hv
  have g := h (rb_ov y 250 0 24 (fun k => nI (rb_dg R (v / m) k))) (rb_HX (n := 24) hR (rb_ovF (fun i hi => rfl)) hq (fun i i1 i2 => by
    rw [rb_ovO (by omega), H i i2, rb_hi hR hv i1]
    rfl)) (rb_ovK (t := 5) (by omega))
  have w := yl_cut hR hR2 hm hm2 (rb_Hm H (by omega)) g 24 (by omega)
  rw [rb_ovE, Nat.div_eq_of_lt hv, Nat.zero_mod] at w
  exact br_t (nI_le (a := 1) hm (by omega)) ⟨25, w⟩
theorem yl_digitIn {post : Int32 → SY → Prop} {R v o i : Nat} {V : Nat → Nat} (hR : 2 ≤ R) (hR2 : R ≤ 36) (hv : v < R ^ 24) (ho : 2 ≤ o) (ho2 : o ≤ 36) (hi : i < 128)
    (h : rb_PY R V (post (nI (v / o ^ i % o)))) : ∀ d k (x : Int32) y, k + d = i + 1 → rb_H R y (50 * 5) 50 (v / o ^ k) → rb_Y R V y → (k = i + 1 → x = nI (v / o ^ i % o)) → wY_digitIn_49 post (nI o) (nI i) (d + 1) x (nI k) (nI R) y
  | 0, k, x, y, e, H, hY, hy => br_t (nI_lt (by omega) (by omega)) (by
      rw [hy (by omega)]
      exact h _ hY)
  | d + 1, k, x, y, e, H, hY, hy => br_f (nI_nlt (by omega) (by omega)) (yy_cut hR hR2 (by omega) (by omega) H (Nat.lt_of_le_of_lt (Nat.div_le_self _ _) hv) (fun y1 H1 K1 => nm_r (nI_1 k) (by
      rw [← rb_dv] at H1
      exact yl_digitIn hR hR2 hv ho ho2 hi h d (k + 1) _ y1 (by omega) H1 (rb_Yw hY (by omega) K1) (fun z => by
        have e2 : k = i := by omega
        rw [e2]))))
theorem yy_digitIn {post : Int32 → SY → Prop} {y : Nat → Int32} {R a o i : Nat} {V : Nat → Nat} (hR : 2 ≤ R) (hR2 : R ≤ 36) (hB : rb_B R V) (hY : rb_Y R V y) (ha : a < 4) (ho : 2 ≤ o) (ho2 : o ≤ 36) (hi : i < 128)
    (h : rb_PY R V (post (nI (V a / o ^ i % o)))) : wpY_digitIn post (nI R, y) (nI a) (nI o) (nI i) := by
  unfold wpY_digitIn
  dsimp only
  refine yy_ok ha (br_t rfl (br_f (nI_nlt (b := 2) ho (by omega)) (br_t (nI_le (b := 36) ho2 (by decide)) (br_f (nI_pos (by omega)) (br_t (nI_le (b := 127) (by omega) (by decide)) ?_)))))
  refine yy_copyRow (f := a) (t := 5) (by omega) (by omega) (hY a ha) (fun y1 H1 K1 => ⟨i + 2, ?_⟩)
  exact yl_digitIn hR hR2 (hB a ha) ho ho2 hi h (i + 1) 0 0 y1 (by omega) (by rw [Nat.pow_zero, Nat.div_one]; exact H1) (rb_Yw hY (by omega) K1) (fun z => absurd z (by omega))
theorem yl_lengthIn {post : Int32 → SY → Prop} {R v o : Nat} {V : Nat → Nat} (hR : 2 ≤ R) (hR2 : R ≤ 36) (hv : v < R ^ 24) (ho : 2 ≤ o) (ho2 : o ≤ 36)
    (h : ∀ n, n ≤ 128 → (∀ j, j < n → v / o ^ j ≠ 0) → (n = 128 ∨ v / o ^ n = 0) → rb_PY R V (post (nI n))) : ∀ d k n y, k + d = 128 → n ≤ k → (n = k ∨ v / o ^ n = 0) → rb_H R y (50 * 5) 50 (v / o ^ n) → rb_Y R V y → (∀ j, j < n → v / o ^ j ≠ 0) → wY_lengthIn_35 post (nI o) (d + 1) (nI n) (nI k) (nI R) y
  | 0, k, n, y, e, l, hn, H, hY, hj => br_t (nI_le (a := 128) (by omega) (by omega)) (h n (by omega) hj (hn.imp (fun z => by omega) id) _ hY)
  | d + 1, k, n, y, e, l, hn, H, hY, hj => by
    have b1 : v / o ^ n < R ^ 24 := Nat.lt_of_le_of_lt (Nat.div_le_self _ _) hv
    refine br_f (nI_ge (b := 128) (by omega) (by decide)) (yy_zero (r := 5) (by omega) hR hR2 H (rb_w50 hR b1) (fun z => br_t rfl ?_) (fun z => br_f (by decide) (nm_r (nI_1 k) (yl_lengthIn hR hR2 hv ho ho2 h d (k + 1) n y (by omega) (by omega) (Or.inr z) H hY hj))))
    have e2 : n = k := hn.resolve_right z
    refine yy_cut hR hR2 (by omega) (by omega) H b1 (fun y1 H1 K1 => nm_r (nI_1 n) (nm_r (nI_1 k) ?_))
    rw [← rb_dv] at H1
    refine yl_lengthIn hR hR2 hv ho ho2 h d (k + 1) (n + 1) y1 (by omega) (by omega) (Or.inl (by omega)) H1 (rb_Yw hY (by omega) K1) (fun j hj2 => ?_)
    by_cases e9 : j = n
    · rw [e9]
      exact z
    · exact hj j (by omega)
theorem yy_lengthIn {post : Int32 → SY → Prop} {y : Nat → Int32} {R a o : Nat} {V : Nat → Nat} (hR : 2 ≤ R) (hR2 : R ≤ 36) (hB : rb_B R V) (hY : rb_Y R V y) (ha : a < 4) (ho : 2 ≤ o) (ho2 : o ≤ 36)
    (h : ∀ n, n ≤ 128 → (∀ j, j < n → V a / o ^ j ≠ 0) → (n = 128 ∨ V a / o ^ n = 0) → rb_PY R V (post (nI n))) : wpY_lengthIn post (nI R, y) (nI a) (nI o) := by
  unfold wpY_lengthIn
  dsimp only
  refine yy_ok ha (br_t rfl (br_f (nI_nlt (b := 2) ho (by omega)) (br_t (nI_le (b := 36) ho2 (by decide)) ?_)))
  refine yy_copyRow (f := a) (t := 5) (by omega) (by omega) (hY a ha) (fun y1 H1 K1 => ⟨129, ?_⟩)
  exact yl_lengthIn hR hR2 (hB a ha) ho ho2 h 128 0 0 y1 (by omega) (by omega) (Or.inl rfl) (by rw [Nat.pow_zero, Nat.div_one]; exact H1) (rb_Yw hY (by omega) K1) (fun j z => absurd z (by omega))
theorem yy_remainder {post : Int32 → SY → Prop} {y : Nat → Int32} {R a m : Nat} {V : Nat → Nat} (hR : 2 ≤ R) (hR2 : R ≤ 36) (hB : rb_B R V) (hY : rb_Y R V y) (ha : a < 4) (hm : 0 < m) (hm2 : m ≤ 1000000)
    (h : rb_PY R V (post (nI (V a % m)))) : wpY_remainder post (nI R, y) (nI a) (nI m) := by
  unfold wpY_remainder
  dsimp only
  refine yy_ok ha (br_t rfl (br_f (nI_nlt (b := 1) hm (by omega)) (br_t (nI_le (b := 1000000) hm2 (by decide)) ?_)))
  refine yy_copyRow (f := a) (t := 5) (by omega) (by omega) (hY a ha) (fun y1 H1 K1 => ?_)
  exact yy_cut hR hR2 hm hm2 H1 (hB a ha) (fun y2 H2 K2 => h _ (rb_Yw (rb_Yw hY (by omega) K1) (by omega) K2))
theorem yl_length {post : Int32 → Prop} {y : Nat → Int32} {R v a : Nat} (hR : 2 ≤ R) (hR2 : R ≤ 36) (ha : a < 4) (H : rb_H R y (50 * a) 50 v)
    (h : ∀ n, n ≤ 24 → (∀ i, n ≤ i → i < 24 → rb_dg R v i = 0) → (0 < n → rb_dg R v (n - 1) ≠ 0) → post (nI n)) :
    ∀ d i n, i + d = 24 → n ≤ i → (∀ k, n ≤ k → k < i → rb_dg R v k = 0) → (0 < n → rb_dg R v (n - 1) ≠ 0) → wY_length_14 post (nI a) (nI R) y (d + 1) (nI n) (nI i)
  | 0, i, n, e, l, z1, z2 => br_t (nI_le (a := 24) (by omega) (by omega)) (h n (by omega) (fun k k1 k2 => z1 k k1 (by omega)) z2)
  | d + 1, i, n, e, l, z1, z2 => by
    have b1 := rb_dgb hR hR2 v i
    refine br_f (nI_ge (b := 24) (by omega) (by decide)) ⟨pk_in (50 * a + i) 500 (by omega) (rb_x50 a i), pk_eq (rb_dg R v i) 0 (fun k => nm_r (nI_1 i) (yl_length hR hR2 ha H h d (i + 1) n (by omega) (by omega) (fun k9 k1 k2 => ?_) z2)) (fun k => nm_r (nI_1 i) (nm_r (nI_1 i) (yl_length hR hR2 ha H h d (i + 1) (i + 1) (by omega) (by omega) (fun k9 k1 k2 => absurd k2 (by omega)) (fun _ => k)))) (rb_rH H (by omega) (rb_x50 a i) (by omega))⟩
    by_cases e9 : k9 = i
    · rw [e9]
      exact k
    · exact z1 k9 k1 (by omega)
theorem yy_length {post : Int32 → Prop} {y : Nat → Int32} {R a : Nat} {V : Nat → Nat} (hR : 2 ≤ R) (hR2 : R ≤ 36) (hY : rb_Y R V y) (ha : a < 4)
    (h : ∀ n, n ≤ 24 → (∀ i, n ≤ i → i < 24 → rb_dg R (V a) i = 0) → (0 < n → rb_dg R (V a) (n - 1) ≠ 0) → post (nI n)) : wpY_length post (nI R, y) (nI a) := by
  unfold wpY_length
  dsimp only
  exact yy_ok ha (br_t rfl ⟨25, yl_length hR hR2 ha (hY a ha) h 24 0 0 (by omega) (by omega) (fun k k1 k2 => absurd k2 (by omega)) (fun z => absurd z (by omega))⟩)
theorem yy_digitAt {post : Int32 → Prop} {y : Nat → Int32} {R a i : Nat} {V : Nat → Nat} (hY : rb_Y R V y) (ha : a < 4) (hi : i < 24)
    (h : post (nI (rb_dg R (V a) i))) : wpY_digit post (nI R, y) (nI a) (nI i) := by
  unfold wpY_digit
  dsimp only
  refine yy_ok ha (br_t rfl (br_f (nI_pos (by omega)) (br_t (nI_le (b := 23) (by omega) (by decide)) ⟨pk_in (50 * a + i) 500 (by omega) (rb_x50 a i), ?_⟩)))
  rw [rb_rH (hY a ha) (by omega) (rb_x50 a i) (by omega)]
  exact h
theorem yy_set {post : Int32 → SY → Prop} {y : Nat → Int32} {R a i d n : Nat} {V : Nat → Nat} (hR2 : R ≤ 36) (hY : rb_Y R V y) (ha : a < 4) (hi : i < 24) (hd : d < R) (hn : ∀ k, rb_dg R n k = if k = i then d else rb_dg R (V a) k)
    (h : rb_PY R (rb_up V a n) (post (nI (rb_dg R (V a) i)))) : wpY_set post (nI R, y) (nI a) (nI i) (nI d) := by
  unfold wpY_set
  dsimp only
  refine yy_ok ha (br_t rfl (br_f (nI_pos (by omega)) (br_t (nI_le (b := 23) (by omega) (by decide)) (br_f (nI_pos (by omega)) (br_t (nI_lt hd (by omega)) ⟨pk_in (50 * a + i) 500 (by omega) (rb_x50 a i), nm_r (rb_rH (hY a ha) (by omega) (rb_x50 a i) (by omega)) ⟨pk_in (50 * a + i) 500 (by omega) (rb_x50 a i), nm_r (e' := upd y (50 * a + i) (nI d)) (by rw [rb_x50, nI_clamp (by omega)]) ?_⟩⟩)))))
  exact h _ (rb_Ys hY (rb_setH (hY a ha) hn) (rb_Ku (by omega)))
/-! shift -/
theorem rb_tgt (p : Int32) (i : Nat) : (0 ≤ nI i + p ∧ nI i + p < 24) ∨ ¬ (0 ≤ nI i + p ∧ nI i + p < 24) := Classical.em _
theorem rb_tin {x : Int32} (h : 0 ≤ x ∧ x < 24) : ∃ t : Nat, t < 24 ∧ x = nI t := by
  obtain ⟨j, hj, rfl⟩ := nI_of (Int32.not_lt.mpr h.1)
  exact ⟨j, (nI_ltI (b := 24) hj (by decide)).mp h.2, rfl⟩
theorem rb_sEin {p : Int32} {d : Nat → Nat} {i t k : Nat} (ht : t < 24) (hk : k < 24) (e : nI i + p = nI t) : rb_sE p d (i + 1) k = if k = t then d i else rb_sE p d i k := by
  show (if nI i + p = nI k then d i else rb_sE p d i k) = _
  rw [e]
  by_cases c : k = t
  · rw [c, if_pos rfl, if_pos rfl]
  · rw [if_neg c, if_neg (fun z => c ((nI_eq (by omega) (by omega)).mp z).symm)]
theorem rb_sEout {p : Int32} {d : Nat → Nat} {i k : Nat} (hk : k < 24) (e : ¬ (0 ≤ nI i + p ∧ nI i + p < 24)) : rb_sE p d (i + 1) k = rb_sE p d i k := by
  show (if nI i + p = nI k then d i else rb_sE p d i k) = _
  rw [if_neg (fun z => e (by rw [z]; exact ⟨nI_pos' (by omega), nI_lt (b := 24) hk (by decide)⟩))]
theorem rb_sLin {p : Int32} {d : Nat → Nat} {i : Nat} (h : (0 ≤ nI i + p ∧ nI i + p < 24) ∨ d i = 0) : rb_sL p d (i + 1) = rb_sL p d i := if_pos h
theorem rb_sLout {p : Int32} {d : Nat → Nat} {i : Nat} (h : ¬ (0 ≤ nI i + p ∧ nI i + p < 24)) (h2 : d i ≠ 0) : rb_sL p d (i + 1) = rb_sL p d i + 1 := if_neg (fun z => z.elim h h2)
